theorem dX3_entry_86 : decode cX3_entry 86 = .ok (.getfield 28, 3) := by decide +kernel
theorem dX3_entry_89 : decode cX3_entry 89 = .ok (.iload_n 1, 1) := by decide +kernel
theorem dX3_entry_90 : decode cX3_entry 90 = .ok (.invokevirtual 98, 3) := by decide +kernel
theorem dX3_entry_93 : decode cX3_entry 93 = .ok (.ireturn, 1) := by decide +kernel
theorem dX3_entry_94 : decode cX3_entry 94 = .ok (.aload_n 0, 1) := by decide +kernel
theorem dX3_entry_95 : decode cX3_entry 95 = .ok (.getfield 28, 3) := by decide +kernel
theorem dX3_entry_98 : decode cX3_entry 98 = .ok (.iload_n 1, 1) := by decide +kernel
theorem dX3_entry_99 : decode cX3_entry 99 = .ok (.invokevirtual 105, 3) := by decide +kernel
theorem dX3_entry_102 : decode cX3_entry 102 = .ok (.ireturn, 1) := by decide +kernel
theorem dX3_entry_103 : decode cX3_entry 103 = .ok (.aload_n 0, 1) := by decide +kernel
theorem dX3_entry_104 : decode cX3_entry 104 = .ok (.getfield 28, 3) := by decide +kernel
theorem dX3_entry_107 : decode cX3_entry 107 = .ok (.iload_n 1, 1) := by decide +kernel
theorem dX3_entry_108 : decode cX3_entry 108 = .ok (.invokevirtual 167, 3) := by decide +kernel
theorem dX3_entry_111 : decode cX3_entry 111 = .ok (.ireturn, 1) := by decide +kernel
set_option maxRecDepth 20000 in
theorem ggX3_entries_X3_requirePower : GoodIn wsX3_entries wsX3_requirePower := goodIn_ca (goodIn_r _ [6, 7, 8, 9, 10, 11, 12, 13, 14, 15, 22, 23, 24, 25, 26, 27, 28, 29, 30] (by decide +kernel) (by decide +kernel)) (goodIn_sub (fun _ h => List.mem_cons_of_mem _ (List.mem_append_right _ h)) (by decide +kernel))
set_option maxRecDepth 20000 in
theorem gX3_entries_X3_requirePower : GoodIn wsX3_entries (wsV RX3 46 RX3 yX3_requirePower wsX3_requirePower) := goodIn_app (goodIn_of _ (by decide +kernel)) ggX3_entries_X3_requirePower
set_option maxRecDepth 20000 in
theorem ggX3_entries_X0_count : GoodIn wsX3_entries wsX0_count := goodIn_r _ [20, 21, 31, 32, 33, 34, 35] (by decide +kernel) (by decide +kernel)
set_option maxRecDepth 20000 in
theorem gX3_entries_X0_count : GoodIn wsX3_entries (wsV RX3 156 RX0 yX0_count wsX0_count) := goodIn_app (goodIn_of _ (by decide +kernel)) ggX3_entries_X0_count
theorem dX3_entries_0 : decode cX3_entries 0 = .ok (.aload_n 0, 1) := by decide +kernel
theorem dX3_entries_1 : decode cX3_entries 1 = .ok (.invokevirtual 46, 3) := by decide +kernel
theorem dX3_entries_4 : decode cX3_entries 4 = .ok (.aload_n 0, 1) := by decide +kernel
theorem dX3_entries_5 : decode cX3_entries 5 = .ok (.getfield 28, 3) := by decide +kernel
theorem dX3_entries_8 : decode cX3_entries 8 = .ok (.invokevirtual 156, 3) := by decide +kernel
theorem dX3_entries_11 : decode cX3_entries 11 = .ok (.ireturn, 1) := by decide +kernel
set_option maxRecDepth 20000 in
theorem ggX3_free_X3_requirePower : GoodIn wsX3_free wsX3_requirePower := goodIn_ca (goodIn_r _ [6, 7, 8, 9, 10, 11, 12, 13, 14, 15, 38, 39, 40, 41, 42, 43, 44, 45, 46] (by decide +kernel) (by decide +kernel)) (goodIn_sub (fun _ h => List.mem_cons_of_mem _ (List.mem_append_right _ h)) (by decide +kernel))
set_option maxRecDepth 20000 in
theorem gX3_free_X3_requirePower : GoodIn wsX3_free (wsV RX3 46 RX3 yX3_requirePower wsX3_requirePower) := goodIn_app (goodIn_of _ (by decide +kernel)) ggX3_free_X3_requirePower
set_option maxRecDepth 20000 in
theorem ggX3_free_X0_longestEmpty : GoodIn wsX3_free wsX0_longestEmpty := goodIn_r _ [20, 21, 22, 23, 24, 25, 26, 27, 28, 29, 30, 31, 32, 33, 47, 48, 49, 50, 51, 52] (by decide +kernel) (by decide +kernel)
set_option maxRecDepth 20000 in
theorem gX3_free_X0_longestEmpty : GoodIn wsX3_free (wsV RX3 170 RX0 yX0_longestEmpty wsX0_longestEmpty) := goodIn_app (goodIn_of _ (by decide +kernel)) ggX3_free_X0_longestEmpty
set_option maxRecDepth 20000 in
theorem ggX3_free_X0_emptyBlocks : GoodIn wsX3_free wsX0_emptyBlocks := goodIn_r _ [37, 21, 22, 23, 28, 29, 30, 31, 32, 33, 47, 48, 49, 50, 51, 52] (by decide +kernel) (by decide +kernel)
set_option maxRecDepth 20000 in
theorem gX3_free_X0_emptyBlocks : GoodIn wsX3_free (wsV RX3 113 RX0 yX0_emptyBlocks wsX0_emptyBlocks) := goodIn_app (goodIn_of _ (by decide +kernel)) ggX3_free_X0_emptyBlocks
theorem dX3_free_0 : decode cX3_free 0 = .ok (.aload_n 0, 1) := by decide +kernel
theorem dX3_free_1 : decode cX3_free 1 = .ok (.invokevirtual 46, 3) := by decide +kernel
theorem dX3_free_4 : decode cX3_free 4 = .ok (.iload_n 1, 1) := by decide +kernel
theorem dX3_free_5 : decode cX3_free 5 = .ok (.ifCond .eq 13, 3) := by decide +kernel
theorem dX3_free_8 : decode cX3_free 8 = .ok (.aload_n 0, 1) := by decide +kernel
theorem dX3_free_9 : decode cX3_free 9 = .ok (.getfield 28, 3) := by decide +kernel
theorem dX3_free_12 : decode cX3_free 12 = .ok (.invokevirtual 170, 3) := by decide +kernel
theorem dX3_free_15 : decode cX3_free 15 = .ok (.goto 10, 3) := by decide +kernel
theorem dX3_free_18 : decode cX3_free 18 = .ok (.aload_n 0, 1) := by decide +kernel
theorem dX3_free_19 : decode cX3_free 19 = .ok (.getfield 28, 3) := by decide +kernel
theorem dX3_free_22 : decode cX3_free 22 = .ok (.invokevirtual 113, 3) := by decide +kernel
theorem dX3_free_25 : decode cX3_free 25 = .ok (.ireturn, 1) := by decide +kernel
set_option maxRecDepth 20000 in
theorem ggX3_handle_X3_requirePower : GoodIn wsX3_handle wsX3_requirePower := goodIn_ca (goodIn_r _ [6, 7, 8, 9, 10, 11, 12, 13, 14, 15, 35, 36, 37, 38, 39, 40, 41, 42, 43] (by decide +kernel) (by decide +kernel)) (goodIn_sub (fun _ h => List.mem_cons_of_mem _ (List.mem_append_right _ h)) (by decide +kernel))
set_option maxRecDepth 20000 in
theorem gX3_handle_X3_requirePower : GoodIn wsX3_handle (wsV RX3 46 RX3 yX3_requirePower wsX3_requirePower) := goodIn_app (goodIn_of _ (by decide +kernel)) ggX3_handle_X3_requirePower
set_option maxRecDepth 20000 in
theorem ggX3_handle_X0_leastHandleOf : GoodIn wsX3_handle wsX0_leastHandleOf := goodIn_r _ [20, 21, 22, 23, 24, 19, 25, 26, 27, 28, 29, 30, 31, 32, 33, 34, 44, 45, 46, 47, 48, 49] (by decide +kernel) (by decide +kernel)
set_option maxRecDepth 20000 in
theorem gX3_handle_X0_leastHandleOf : GoodIn wsX3_handle (wsV RX3 173 RX0 yX0_leastHandleOf wsX0_leastHandleOf) := goodIn_app (goodIn_of _ (by decide +kernel)) ggX3_handle_X0_leastHandleOf
theorem dX3_handle_0 : decode cX3_handle 0 = .ok (.aload_n 0, 1) := by decide +kernel
theorem dX3_handle_1 : decode cX3_handle 1 = .ok (.invokevirtual 46, 3) := by decide +kernel
theorem dX3_handle_4 : decode cX3_handle 4 = .ok (.aload_n 0, 1) := by decide +kernel
theorem dX3_handle_5 : decode cX3_handle 5 = .ok (.getfield 28, 3) := by decide +kernel
theorem dX3_handle_8 : decode cX3_handle 8 = .ok (.iload_n 1, 1) := by decide +kernel
theorem dX3_handle_9 : decode cX3_handle 9 = .ok (.invokevirtual 173, 3) := by decide +kernel
theorem dX3_handle_12 : decode cX3_handle 12 = .ok (.ireturn, 1) := by decide +kernel
set_option maxRecDepth 20000 in
theorem ggX3_writes_X1_made : GoodIn wsX3_writes wsX1_made := goodIn_r _ [6, 7, 14, 15, 16] (by decide +kernel) (by decide +kernel)
set_option maxRecDepth 20000 in
theorem gX3_writes_X1_made : GoodIn wsX3_writes (wsV RX3 176 RX1 yX1_made wsX1_made) := goodIn_app (goodIn_of _ (by decide +kernel)) ggX3_writes_X1_made
theorem dX3_writes_0 : decode cX3_writes 0 = .ok (.aload_n 0, 1) := by decide +kernel
theorem dX3_writes_1 : decode cX3_writes 1 = .ok (.getfield 10, 3) := by decide +kernel
theorem dX3_writes_4 : decode cX3_writes 4 = .ok (.invokevirtual 176, 3) := by decide +kernel
theorem dX3_writes_7 : decode cX3_writes 7 = .ok (.ireturn, 1) := by decide +kernel
set_option maxRecDepth 20000 in
theorem ggX3_isOn_X1_isUp : GoodIn wsX3_isOn wsX1_isUp := goodIn_r _ [6, 7, 14, 15, 16] (by decide +kernel) (by decide +kernel)
set_option maxRecDepth 20000 in
theorem gX3_isOn_X1_isUp : GoodIn wsX3_isOn (wsV RX3 138 RX1 yX1_isUp wsX1_isUp) := goodIn_app (goodIn_of _ (by decide +kernel)) ggX3_isOn_X1_isUp
theorem dX3_isOn_0 : decode cX3_isOn 0 = .ok (.aload_n 0, 1) := by decide +kernel
theorem dX3_isOn_1 : decode cX3_isOn 1 = .ok (.getfield 10, 3) := by decide +kernel
theorem dX3_isOn_4 : decode cX3_isOn 4 = .ok (.invokevirtual 138, 3) := by decide +kernel
theorem dX3_isOn_7 : decode cX3_isOn 7 = .ok (.ireturn, 1) := by decide +kernel
set_option maxRecDepth 20000 in
theorem ggX3_requirePower_X1_isUp : GoodIn wsX3_requirePower wsX1_isUp := goodIn_r _ [8, 9, 16, 17, 18] (by decide +kernel) (by decide +kernel)
set_option maxRecDepth 20000 in
theorem gX3_requirePower_X1_isUp : GoodIn wsX3_requirePower (wsV RX3 138 RX1 yX1_isUp wsX1_isUp) := goodIn_app (goodIn_of _ (by decide +kernel)) ggX3_requirePower_X1_isUp
theorem dX3_requirePower_0 : decode cX3_requirePower 0 = .ok (.aload_n 0, 1) := by decide +kernel
theorem dX3_requirePower_1 : decode cX3_requirePower 1 = .ok (.getfield 10, 3) := by decide +kernel
theorem dX3_requirePower_4 : decode cX3_requirePower 4 = .ok (.invokevirtual 138, 3) := by decide +kernel
theorem dX3_requirePower_7 : decode cX3_requirePower 7 = .ok (.ifCond .ne 13, 3) := by decide +kernel
theorem dX3_requirePower_10 : decode cX3_requirePower 10 = .ok (.new 63, 3) := by decide +kernel
theorem dX3_requirePower_13 : decode cX3_requirePower 13 = .ok (.dup, 1) := by decide +kernel
theorem dX3_requirePower_14 : decode cX3_requirePower 14 = .ok (.ldc 179, 2) := by decide +kernel
theorem dX3_requirePower_16 : decode cX3_requirePower 16 = .ok (.invokespecial 67, 3) := by decide +kernel
theorem dX3_requirePower_19 : decode cX3_requirePower 19 = .ok (.athrow, 1) := by decide +kernel
theorem dX3_requirePower_20 : decode cX3_requirePower 20 = .ok (.return_, 1) := by decide +kernel
theorem dX3_requireName_0 : decode cX3_requireName 0 = .ok (.iload_n 1, 1) := by decide +kernel
theorem dX3_requireName_1 : decode cX3_requireName 1 = .ok (.iconst 1, 1) := by decide +kernel
theorem dX3_requireName_2 : decode cX3_requireName 2 = .ok (.if_icmp .lt 10, 3) := by decide +kernel
theorem dX3_requireName_5 : decode cX3_requireName 5 = .ok (.iload_n 1, 1) := by decide +kernel
theorem dX3_requireName_6 : decode cX3_requireName 6 = .ok (.sipush 999, 3) := by decide +kernel
theorem dX3_requireName_9 : decode cX3_requireName 9 = .ok (.if_icmp .le 13, 3) := by decide +kernel
theorem dX3_requireName_12 : decode cX3_requireName 12 = .ok (.new 52, 3) := by decide +kernel
theorem dX3_requireName_15 : decode cX3_requireName 15 = .ok (.dup, 1) := by decide +kernel
theorem dX3_requireName_16 : decode cX3_requireName 16 = .ok (.ldc 181, 2) := by decide +kernel
theorem dX3_requireName_18 : decode cX3_requireName 18 = .ok (.invokespecial 56, 3) := by decide +kernel
theorem dX3_requireName_21 : decode cX3_requireName 21 = .ok (.athrow, 1) := by decide +kernel
theorem dX3_requireName_22 : decode cX3_requireName 22 = .ok (.return_, 1) := by decide +kernel
set_option maxRecDepth 20000 in
theorem ggX3_requireTentative_X0_findTentative : GoodIn wsX3_requireTentative wsX0_findTentative := goodIn_r _ [8, 9, 10, 11, 12, 13, 14, 15, 16, 17, 24, 25, 26, 27, 28, 29] (by decide +kernel) (by decide +kernel)
set_option maxRecDepth 20000 in
theorem gX3_requireTentative_X0_findTentative : GoodIn wsX3_requireTentative (wsV RX3 183 RX0 yX0_findTentative wsX0_findTentative) := goodIn_app (goodIn_of _ (by decide +kernel)) ggX3_requireTentative_X0_findTentative
theorem dX3_requireTentative_0 : decode cX3_requireTentative 0 = .ok (.aload_n 0, 1) := by decide +kernel
theorem dX3_requireTentative_1 : decode cX3_requireTentative 1 = .ok (.getfield 28, 3) := by decide +kernel
theorem dX3_requireTentative_4 : decode cX3_requireTentative 4 = .ok (.iload_n 1, 1) := by decide +kernel
theorem dX3_requireTentative_5 : decode cX3_requireTentative 5 = .ok (.invokevirtual 183, 3) := by decide +kernel
theorem dX3_requireTentative_8 : decode cX3_requireTentative 8 = .ok (.istore_n 2, 1) := by decide +kernel
theorem dX3_requireTentative_9 : decode cX3_requireTentative 9 = .ok (.iload_n 2, 1) := by decide +kernel
theorem dX3_requireTentative_10 : decode cX3_requireTentative 10 = .ok (.iconst (-1), 1) := by decide +kernel
theorem dX3_requireTentative_11 : decode cX3_requireTentative 11 = .ok (.if_icmp .ne 13, 3) := by decide +kernel
theorem dX3_requireTentative_14 : decode cX3_requireTentative 14 = .ok (.new 186, 3) := by decide +kernel
theorem dX3_requireTentative_17 : decode cX3_requireTentative 17 = .ok (.dup, 1) := by decide +kernel
theorem dX3_requireTentative_18 : decode cX3_requireTentative 18 = .ok (.ldc 188, 2) := by decide +kernel
theorem dX3_requireTentative_20 : decode cX3_requireTentative 20 = .ok (.invokespecial 190, 3) := by decide +kernel
theorem dX3_requireTentative_23 : decode cX3_requireTentative 23 = .ok (.athrow, 1) := by decide +kernel
theorem dX3_requireTentative_24 : decode cX3_requireTentative 24 = .ok (.iload_n 2, 1) := by decide +kernel
theorem dX3_requireTentative_25 : decode cX3_requireTentative 25 = .ok (.ireturn, 1) := by decide +kernel
set_option maxRecDepth 20000 in
theorem ggX3_requirePermanent_X0_findPermanent : GoodIn wsX3_requirePermanent wsX0_findPermanent := goodIn_r _ [8, 9, 10, 11, 12, 13, 14, 15, 16, 17, 24, 25, 26, 27, 28, 29] (by decide +kernel) (by decide +kernel)
set_option maxRecDepth 20000 in
theorem gX3_requirePermanent_X0_findPermanent : GoodIn wsX3_requirePermanent (wsV RX3 122 RX0 yX0_findPermanent wsX0_findPermanent) := goodIn_app (goodIn_of _ (by decide +kernel)) ggX3_requirePermanent_X0_findPermanent
theorem dX3_requirePermanent_0 : decode cX3_requirePermanent 0 = .ok (.aload_n 0, 1) := by decide +kernel
theorem dX3_requirePermanent_1 : decode cX3_requirePermanent 1 = .ok (.getfield 28, 3) := by decide +kernel
theorem dX3_requirePermanent_4 : decode cX3_requirePermanent 4 = .ok (.iload_n 1, 1) := by decide +kernel
theorem dX3_requirePermanent_5 : decode cX3_requirePermanent 5 = .ok (.invokevirtual 122, 3) := by decide +kernel
theorem dX3_requirePermanent_8 : decode cX3_requirePermanent 8 = .ok (.istore_n 2, 1) := by decide +kernel
theorem dX3_requirePermanent_9 : decode cX3_requirePermanent 9 = .ok (.iload_n 2, 1) := by decide +kernel
theorem dX3_requirePermanent_10 : decode cX3_requirePermanent 10 = .ok (.iconst (-1), 1) := by decide +kernel
theorem dX3_requirePermanent_11 : decode cX3_requirePermanent 11 = .ok (.if_icmp .ne 13, 3) := by decide +kernel
theorem dX3_requirePermanent_14 : decode cX3_requirePermanent 14 = .ok (.new 186, 3) := by decide +kernel
theorem dX3_requirePermanent_17 : decode cX3_requirePermanent 17 = .ok (.dup, 1) := by decide +kernel
theorem dX3_requirePermanent_18 : decode cX3_requirePermanent 18 = .ok (.ldc 191, 2) := by decide +kernel
theorem dX3_requirePermanent_20 : decode cX3_requirePermanent 20 = .ok (.invokespecial 190, 3) := by decide +kernel
theorem dX3_requirePermanent_23 : decode cX3_requirePermanent 23 = .ok (.athrow, 1) := by decide +kernel
theorem dX3_requirePermanent_24 : decode cX3_requirePermanent 24 = .ok (.iload_n 2, 1) := by decide +kernel
theorem dX3_requirePermanent_25 : decode cX3_requirePermanent 25 = .ok (.ireturn, 1) := by decide +kernel
set_option maxRecDepth 20000 in
theorem ggX3_requireBlock_X0_lengthAt : GoodIn wsX3_requireBlock wsX0_lengthAt := goodIn_r _ [8, 9, 10, 11, 12, 13, 14, 15, 22, 23, 24, 25, 26, 27] (by decide +kernel) (by decide +kernel)
set_option maxRecDepth 20000 in
theorem gX3_requireBlock_X0_lengthAt : GoodIn wsX3_requireBlock (wsV RX3 105 RX0 yX0_lengthAt wsX0_lengthAt) := goodIn_app (goodIn_of _ (by decide +kernel)) ggX3_requireBlock_X0_lengthAt
theorem dX3_requireBlock_0 : decode cX3_requireBlock 0 = .ok (.iload_n 2, 1) := by decide +kernel
theorem dX3_requireBlock_1 : decode cX3_requireBlock 1 = .ok (.ifCond .lt 15, 3) := by decide +kernel
theorem dX3_requireBlock_4 : decode cX3_requireBlock 4 = .ok (.iload_n 2, 1) := by decide +kernel
theorem dX3_requireBlock_5 : decode cX3_requireBlock 5 = .ok (.aload_n 0, 1) := by decide +kernel
theorem dX3_requireBlock_6 : decode cX3_requireBlock 6 = .ok (.getfield 28, 3) := by decide +kernel
theorem dX3_requireBlock_9 : decode cX3_requireBlock 9 = .ok (.iload_n 1, 1) := by decide +kernel
theorem dX3_requireBlock_10 : decode cX3_requireBlock 10 = .ok (.invokevirtual 105, 3) := by decide +kernel
theorem dX3_requireBlock_13 : decode cX3_requireBlock 13 = .ok (.if_icmp .lt 13, 3) := by decide +kernel
theorem dX3_requireBlock_16 : decode cX3_requireBlock 16 = .ok (.new 52, 3) := by decide +kernel
theorem dX3_requireBlock_19 : decode cX3_requireBlock 19 = .ok (.dup, 1) := by decide +kernel
theorem dX3_requireBlock_20 : decode cX3_requireBlock 20 = .ok (.ldc 193, 2) := by decide +kernel
theorem dX3_requireBlock_22 : decode cX3_requireBlock 22 = .ok (.invokespecial 56, 3) := by decide +kernel
theorem dX3_requireBlock_25 : decode cX3_requireBlock 25 = .ok (.athrow, 1) := by decide +kernel
theorem dX3_requireBlock_26 : decode cX3_requireBlock 26 = .ok (.return_, 1) := by decide +kernel
set_option maxRecDepth 20000 in
theorem ggX3_requireFewEntries_X0_count : GoodIn wsX3_requireFewEntries wsX0_count := goodIn_r _ [8, 9, 16, 17, 18, 19, 20] (by decide +kernel) (by decide +kernel)
set_option maxRecDepth 20000 in
theorem gX3_requireFewEntries_X0_count : GoodIn wsX3_requireFewEntries (wsV RX3 156 RX0 yX0_count wsX0_count) := goodIn_app (goodIn_of _ (by decide +kernel)) ggX3_requireFewEntries_X0_count
theorem dX3_requireFewEntries_0 : decode cX3_requireFewEntries 0 = .ok (.aload_n 0, 1) := by decide +kernel
theorem dX3_requireFewEntries_1 : decode cX3_requireFewEntries 1 = .ok (.getfield 32, 3) := by decide +kernel
theorem dX3_requireFewEntries_4 : decode cX3_requireFewEntries 4 = .ok (.invokevirtual 156, 3) := by decide +kernel
theorem dX3_requireFewEntries_7 : decode cX3_requireFewEntries 7 = .ok (.bipush 16, 2) := by decide +kernel
theorem dX3_requireFewEntries_9 : decode cX3_requireFewEntries 9 = .ok (.if_icmp .le 13, 3) := by decide +kernel
theorem dX3_requireFewEntries_12 : decode cX3_requireFewEntries 12 = .ok (.new 75, 3) := by decide +kernel
theorem dX3_requireFewEntries_15 : decode cX3_requireFewEntries 15 = .ok (.dup, 1) := by decide +kernel
theorem dX3_requireFewEntries_16 : decode cX3_requireFewEntries 16 = .ok (.ldc 195, 2) := by decide +kernel
theorem dX3_requireFewEntries_18 : decode cX3_requireFewEntries 18 = .ok (.invokespecial 79, 3) := by decide +kernel
theorem dX3_requireFewEntries_21 : decode cX3_requireFewEntries 21 = .ok (.athrow, 1) := by decide +kernel
theorem dX3_requireFewEntries_22 : decode cX3_requireFewEntries 22 = .ok (.return_, 1) := by decide +kernel
set_option maxRecDepth 20000 in
theorem ggX3_draftInPlaceOf_X0_clear : GoodIn wsX3_draftInPlaceOf wsX0_clear := goodIn_r _ [7, 8, 63, 64, 65, 66, 67] (by decide +kernel) (by decide +kernel)
set_option maxRecDepth 20000 in
theorem gX3_draftInPlaceOf_X0_clear : GoodIn wsX3_draftInPlaceOf (wsV RX3 197 RX0 yX0_clear wsX0_clear) := goodIn_app (goodIn_of _ (by decide +kernel)) ggX3_draftInPlaceOf_X0_clear
set_option maxRecDepth 20000 in
theorem ggX3_draftInPlaceOf_X0_addRange : GoodIn wsX3_draftInPlaceOf wsX0_addRange := goodIn_r _ [12, 13, 14, 15, 6, 16, 17, 18, 19, 20, 21, 22, 23, 24, 25, 26, 27, 28, 29, 30, 31, 32, 33, 34, 35, 36, 37, 38, 39, 40, 41, 42, 8, 43, 44, 45, 46, 63, 64, 65, 66, 67, 68] (by decide +kernel) (by decide +kernel)
set_option maxRecDepth 20000 in
theorem gX3_draftInPlaceOf_X0_addRange : GoodIn wsX3_draftInPlaceOf (wsV RX3 200 RX0 yX0_addRange wsX0_addRange) := goodIn_app (goodIn_of _ (by decide +kernel)) ggX3_draftInPlaceOf_X0_addRange
set_option maxRecDepth 20000 in
theorem ggX3_draftInPlaceOf_X0_add : GoodIn wsX3_draftInPlaceOf wsX0_add := goodIn_r _ [42, 8, 17, 28, 33, 38, 18, 19, 20, 21, 22, 23, 43, 44, 45, 46, 63, 64, 65, 66, 67, 68] (by decide +kernel) (by decide +kernel)
set_option maxRecDepth 20000 in
theorem gX3_draftInPlaceOf_X0_add : GoodIn wsX3_draftInPlaceOf (wsV RX3 204 RX0 yX0_add wsX0_add) := goodIn_app (goodIn_of _ (by decide +kernel)) ggX3_draftInPlaceOf_X0_add
set_option maxRecDepth 20000 in
theorem ggX3_draftInPlaceOf_X0_lengthAt : GoodIn wsX3_draftInPlaceOf wsX0_lengthAt := goodIn_r _ [27, 28, 18, 19, 20, 21, 22, 23, 63, 64, 65, 66, 67, 68] (by decide +kernel) (by decide +kernel)
set_option maxRecDepth 20000 in
theorem gX3_draftInPlaceOf_X0_lengthAt : GoodIn wsX3_draftInPlaceOf (wsV RX3 105 RX0 yX0_lengthAt wsX0_lengthAt) := goodIn_app (goodIn_of _ (by decide +kernel)) ggX3_draftInPlaceOf_X0_lengthAt
set_option maxRecDepth 20000 in
theorem ggX3_draftInPlaceOf_X0_addEmpty : GoodIn wsX3_draftInPlaceOf wsX0_addEmpty := goodIn_r _ [52, 39, 40, 41, 6, 42, 8, 17, 28, 33, 38, 18, 19, 20, 21, 22, 23, 43, 44, 45, 46, 63, 64, 65, 66, 67, 68] (by decide +kernel) (by decide +kernel)
set_option maxRecDepth 20000 in
theorem gX3_draftInPlaceOf_X0_addEmpty : GoodIn wsX3_draftInPlaceOf (wsV RX3 43 RX0 yX0_addEmpty wsX0_addEmpty) := goodIn_app (goodIn_of _ (by decide +kernel)) ggX3_draftInPlaceOf_X0_addEmpty
set_option maxRecDepth 20000 in
theorem ggX3_draftInPlaceOf_X0_count : GoodIn wsX3_draftInPlaceOf wsX0_count := goodIn_r _ [56, 8, 63, 64, 65, 66, 67] (by decide +kernel) (by decide +kernel)
set_option maxRecDepth 20000 in
theorem gX3_draftInPlaceOf_X0_count : GoodIn wsX3_draftInPlaceOf (wsV RX3 156 RX0 yX0_count wsX0_count) := goodIn_app (goodIn_of _ (by decide +kernel)) ggX3_draftInPlaceOf_X0_count
theorem dX3_draftInPlaceOf_0 : decode cX3_draftInPlaceOf 0 = .ok (.aload_n 0, 1) := by decide +kernel
theorem dX3_draftInPlaceOf_1 : decode cX3_draftInPlaceOf 1 = .ok (.getfield 32, 3) := by decide +kernel
theorem dX3_draftInPlaceOf_4 : decode cX3_draftInPlaceOf 4 = .ok (.invokevirtual 197, 3) := by decide +kernel
theorem dX3_draftInPlaceOf_7 : decode cX3_draftInPlaceOf 7 = .ok (.aload_n 0, 1) := by decide +kernel
theorem dX3_draftInPlaceOf_8 : decode cX3_draftInPlaceOf 8 = .ok (.getfield 32, 3) := by decide +kernel
theorem dX3_draftInPlaceOf_11 : decode cX3_draftInPlaceOf 11 = .ok (.aload_n 0, 1) := by decide +kernel
theorem dX3_draftInPlaceOf_12 : decode cX3_draftInPlaceOf 12 = .ok (.getfield 28, 3) := by decide +kernel
theorem dX3_draftInPlaceOf_15 : decode cX3_draftInPlaceOf 15 = .ok (.iconst 0, 1) := by decide +kernel
theorem dX3_draftInPlaceOf_16 : decode cX3_draftInPlaceOf 16 = .ok (.iload_n 1, 1) := by decide +kernel
theorem dX3_draftInPlaceOf_17 : decode cX3_draftInPlaceOf 17 = .ok (.invokevirtual 200, 3) := by decide +kernel
theorem dX3_draftInPlaceOf_20 : decode cX3_draftInPlaceOf 20 = .ok (.aload_n 0, 1) := by decide +kernel
theorem dX3_draftInPlaceOf_21 : decode cX3_draftInPlaceOf 21 = .ok (.getfield 32, 3) := by decide +kernel
theorem dX3_draftInPlaceOf_24 : decode cX3_draftInPlaceOf 24 = .ok (.iload_n 2, 1) := by decide +kernel
theorem dX3_draftInPlaceOf_25 : decode cX3_draftInPlaceOf 25 = .ok (.iload_n 3, 1) := by decide +kernel
theorem dX3_draftInPlaceOf_26 : decode cX3_draftInPlaceOf 26 = .ok (.iload 4, 2) := by decide +kernel
theorem dX3_draftInPlaceOf_28 : decode cX3_draftInPlaceOf 28 = .ok (.iload 5, 2) := by decide +kernel
theorem dX3_draftInPlaceOf_30 : decode cX3_draftInPlaceOf 30 = .ok (.invokevirtual 204, 3) := by decide +kernel
theorem dX3_draftInPlaceOf_33 : decode cX3_draftInPlaceOf 33 = .ok (.aload_n 0, 1) := by decide +kernel
theorem dX3_draftInPlaceOf_34 : decode cX3_draftInPlaceOf 34 = .ok (.getfield 32, 3) := by decide +kernel
theorem dX3_draftInPlaceOf_37 : decode cX3_draftInPlaceOf 37 = .ok (.aload_n 0, 1) := by decide +kernel
theorem dX3_draftInPlaceOf_38 : decode cX3_draftInPlaceOf 38 = .ok (.getfield 28, 3) := by decide +kernel
theorem dX3_draftInPlaceOf_41 : decode cX3_draftInPlaceOf 41 = .ok (.iload_n 1, 1) := by decide +kernel
theorem dX3_draftInPlaceOf_42 : decode cX3_draftInPlaceOf 42 = .ok (.invokevirtual 105, 3) := by decide +kernel
theorem dX3_draftInPlaceOf_45 : decode cX3_draftInPlaceOf 45 = .ok (.iload_n 3, 1) := by decide +kernel
theorem dX3_draftInPlaceOf_46 : decode cX3_draftInPlaceOf 46 = .ok (.isub, 1) := by decide +kernel
theorem dX3_draftInPlaceOf_47 : decode cX3_draftInPlaceOf 47 = .ok (.invokevirtual 43, 3) := by decide +kernel
theorem dX3_draftInPlaceOf_50 : decode cX3_draftInPlaceOf 50 = .ok (.aload_n 0, 1) := by decide +kernel
theorem dX3_draftInPlaceOf_51 : decode cX3_draftInPlaceOf 51 = .ok (.getfield 32, 3) := by decide +kernel
theorem dX3_draftInPlaceOf_54 : decode cX3_draftInPlaceOf 54 = .ok (.aload_n 0, 1) := by decide +kernel
theorem dX3_draftInPlaceOf_55 : decode cX3_draftInPlaceOf 55 = .ok (.getfield 28, 3) := by decide +kernel
theorem dX3_draftInPlaceOf_58 : decode cX3_draftInPlaceOf 58 = .ok (.iload_n 1, 1) := by decide +kernel
theorem dX3_draftInPlaceOf_59 : decode cX3_draftInPlaceOf 59 = .ok (.iconst 1, 1) := by decide +kernel
theorem dX3_draftInPlaceOf_60 : decode cX3_draftInPlaceOf 60 = .ok (.iadd, 1) := by decide +kernel
theorem dX3_draftInPlaceOf_61 : decode cX3_draftInPlaceOf 61 = .ok (.aload_n 0, 1) := by decide +kernel
theorem dX3_draftInPlaceOf_62 : decode cX3_draftInPlaceOf 62 = .ok (.getfield 28, 3) := by decide +kernel
theorem dX3_draftInPlaceOf_65 : decode cX3_draftInPlaceOf 65 = .ok (.invokevirtual 156, 3) := by decide +kernel
theorem dX3_draftInPlaceOf_68 : decode cX3_draftInPlaceOf 68 = .ok (.invokevirtual 200, 3) := by decide +kernel
theorem dX3_draftInPlaceOf_71 : decode cX3_draftInPlaceOf 71 = .ok (.return_, 1) := by decide +kernel
set_option maxRecDepth 20000 in
theorem ggX3_draftClosed_X0_nameAt : GoodIn wsX3_draftClosed wsX0_nameAt := goodIn_r _ [7, 8, 9, 10, 11, 12, 13, 14, 68, 69, 70, 71, 72, 73] (by decide +kernel) (by decide +kernel)
set_option maxRecDepth 20000 in
theorem gX3_draftClosed_X0_nameAt : GoodIn wsX3_draftClosed (wsV RX3 167 RX0 yX0_nameAt wsX0_nameAt) := goodIn_app (goodIn_of _ (by decide +kernel)) ggX3_draftClosed_X0_nameAt
set_option maxRecDepth 20000 in
theorem ggX3_draftClosed_X0_findPermanent : GoodIn wsX3_draftClosed wsX0_findPermanent := goodIn_r _ [18, 19, 20, 8, 9, 10, 11, 12, 13, 14, 68, 69, 70, 71, 72, 73] (by decide +kernel) (by decide +kernel)
set_option maxRecDepth 20000 in
theorem gX3_draftClosed_X0_findPermanent : GoodIn wsX3_draftClosed (wsV RX3 122 RX0 yX0_findPermanent wsX0_findPermanent) := goodIn_app (goodIn_of _ (by decide +kernel)) ggX3_draftClosed_X0_findPermanent
set_option maxRecDepth 20000 in
theorem ggX3_draftClosed_X0_clear : GoodIn wsX3_draftClosed wsX0_clear := goodIn_r _ [24, 19, 68, 69, 70, 71, 72] (by decide +kernel) (by decide +kernel)
set_option maxRecDepth 20000 in
theorem gX3_draftClosed_X0_clear : GoodIn wsX3_draftClosed (wsV RX3 197 RX0 yX0_clear wsX0_clear) := goodIn_app (goodIn_of _ (by decide +kernel)) ggX3_draftClosed_X0_clear
set_option maxRecDepth 20000 in
theorem ggX3_draftClosed_X0_count : GoodIn wsX3_draftClosed wsX0_count := goodIn_r _ [28, 19, 68, 69, 70, 71, 72] (by decide +kernel) (by decide +kernel)
set_option maxRecDepth 20000 in
theorem gX3_draftClosed_X0_count : GoodIn wsX3_draftClosed (wsV RX3 156 RX0 yX0_count wsX0_count) := goodIn_app (goodIn_of _ (by decide +kernel)) ggX3_draftClosed_X0_count
set_option maxRecDepth 20000 in
theorem ggX3_draftClosed_X0_add : GoodIn wsX3_draftClosed wsX0_add := goodIn_r _ [32, 19, 20, 33, 8, 34, 9, 10, 11, 12, 13, 14, 35, 36, 37, 38, 68, 69, 70, 71, 72, 73] (by decide +kernel) (by decide +kernel)
set_option maxRecDepth 20000 in
theorem gX3_draftClosed_X0_add : GoodIn wsX3_draftClosed (wsV RX3 204 RX0 yX0_add wsX0_add) := goodIn_app (goodIn_of _ (by decide +kernel)) ggX3_draftClosed_X0_add
set_option maxRecDepth 20000 in
theorem ggX3_draftClosed_X0_lengthAt : GoodIn wsX3_draftClosed wsX0_lengthAt := goodIn_r _ [42, 33, 9, 10, 11, 12, 13, 14, 68, 69, 70, 71, 72, 73] (by decide +kernel) (by decide +kernel)
set_option maxRecDepth 20000 in
theorem gX3_draftClosed_X0_lengthAt : GoodIn wsX3_draftClosed (wsV RX3 105 RX0 yX0_lengthAt wsX0_lengthAt) := goodIn_app (goodIn_of _ (by decide +kernel)) ggX3_draftClosed_X0_lengthAt
set_option maxRecDepth 20000 in
theorem ggX3_draftClosed_X0_addEmpty : GoodIn wsX3_draftClosed wsX0_addEmpty := goodIn_r _ [46, 47, 30, 31, 6, 32, 19, 20, 33, 8, 34, 9, 10, 11, 12, 13, 14, 35, 36, 37, 38, 68, 69, 70, 71, 72, 73] (by decide +kernel) (by decide +kernel)
set_option maxRecDepth 20000 in
theorem gX3_draftClosed_X0_addEmpty : GoodIn wsX3_draftClosed (wsV RX3 43 RX0 yX0_addEmpty wsX0_addEmpty) := goodIn_app (goodIn_of _ (by decide +kernel)) ggX3_draftClosed_X0_addEmpty
set_option maxRecDepth 20000 in
theorem ggX3_draftClosed_X0_addRange : GoodIn wsX3_draftClosed wsX0_addRange := goodIn_r _ [51, 52, 53, 54, 6, 55, 20, 9, 10, 11, 12, 13, 14, 56, 40, 41, 42, 33, 57, 4, 5, 7, 8, 58, 59, 60, 61, 34, 47, 30, 31, 32, 19, 35, 36, 37, 38, 68, 69, 70, 71, 72, 73] (by decide +kernel) (by decide +kernel)
set_option maxRecDepth 20000 in
theorem gX3_draftClosed_X0_addRange : GoodIn wsX3_draftClosed (wsV RX3 200 RX0 yX0_addRange wsX0_addRange) := goodIn_app (goodIn_of _ (by decide +kernel)) ggX3_draftClosed_X0_addRange
theorem dX3_draftClosed_0 : decode cX3_draftClosed 0 = .ok (.aload_n 0, 1) := by decide +kernel
theorem dX3_draftClosed_1 : decode cX3_draftClosed 1 = .ok (.getfield 28, 3) := by decide +kernel
theorem dX3_draftClosed_4 : decode cX3_draftClosed 4 = .ok (.iload_n 1, 1) := by decide +kernel
theorem dX3_draftClosed_5 : decode cX3_draftClosed 5 = .ok (.invokevirtual 167, 3) := by decide +kernel
theorem dX3_draftClosed_8 : decode cX3_draftClosed 8 = .ok (.istore_n 3, 1) := by decide +kernel
theorem dX3_draftClosed_9 : decode cX3_draftClosed 9 = .ok (.aload_n 0, 1) := by decide +kernel
theorem dX3_draftClosed_10 : decode cX3_draftClosed 10 = .ok (.getfield 28, 3) := by decide +kernel
theorem dX3_draftClosed_13 : decode cX3_draftClosed 13 = .ok (.iload_n 3, 1) := by decide +kernel
theorem dX3_draftClosed_14 : decode cX3_draftClosed 14 = .ok (.invokevirtual 122, 3) := by decide +kernel
theorem dX3_draftClosed_17 : decode cX3_draftClosed 17 = .ok (.istore 4, 2) := by decide +kernel
theorem dX3_draftClosed_19 : decode cX3_draftClosed 19 = .ok (.aload_n 0, 1) := by decide +kernel
theorem dX3_draftClosed_20 : decode cX3_draftClosed 20 = .ok (.getfield 32, 3) := by decide +kernel
theorem dX3_draftClosed_23 : decode cX3_draftClosed 23 = .ok (.invokevirtual 197, 3) := by decide +kernel
theorem dX3_draftClosed_26 : decode cX3_draftClosed 26 = .ok (.iconst 0, 1) := by decide +kernel
theorem dX3_draftClosed_27 : decode cX3_draftClosed 27 = .ok (.istore 5, 2) := by decide +kernel
theorem dX3_draftClosed_29 : decode cX3_draftClosed 29 = .ok (.iload 5, 2) := by decide +kernel
theorem dX3_draftClosed_31 : decode cX3_draftClosed 31 = .ok (.aload_n 0, 1) := by decide +kernel
theorem dX3_draftClosed_32 : decode cX3_draftClosed 32 = .ok (.getfield 28, 3) := by decide +kernel
theorem dX3_draftClosed_35 : decode cX3_draftClosed 35 = .ok (.invokevirtual 156, 3) := by decide +kernel
theorem dX3_draftClosed_38 : decode cX3_draftClosed 38 = .ok (.if_icmp .ge 90, 3) := by decide +kernel
theorem dX3_draftClosed_41 : decode cX3_draftClosed 41 = .ok (.iload 5, 2) := by decide +kernel
theorem dX3_draftClosed_43 : decode cX3_draftClosed 43 = .ok (.iload_n 1, 1) := by decide +kernel
theorem dX3_draftClosed_44 : decode cX3_draftClosed 44 = .ok (.if_icmp .ne 35, 3) := by decide +kernel
theorem dX3_draftClosed_47 : decode cX3_draftClosed 47 = .ok (.aload_n 0, 1) := by decide +kernel
theorem dX3_draftClosed_48 : decode cX3_draftClosed 48 = .ok (.getfield 32, 3) := by decide +kernel
theorem dX3_draftClosed_51 : decode cX3_draftClosed 51 = .ok (.iconst 2, 1) := by decide +kernel
theorem dX3_draftClosed_52 : decode cX3_draftClosed 52 = .ok (.iload_n 2, 1) := by decide +kernel
theorem dX3_draftClosed_53 : decode cX3_draftClosed 53 = .ok (.iload_n 3, 1) := by decide +kernel
theorem dX3_draftClosed_54 : decode cX3_draftClosed 54 = .ok (.iconst (-1), 1) := by decide +kernel
theorem dX3_draftClosed_55 : decode cX3_draftClosed 55 = .ok (.invokevirtual 204, 3) := by decide +kernel
theorem dX3_draftClosed_58 : decode cX3_draftClosed 58 = .ok (.aload_n 0, 1) := by decide +kernel
theorem dX3_draftClosed_59 : decode cX3_draftClosed 59 = .ok (.getfield 32, 3) := by decide +kernel
theorem dX3_draftClosed_62 : decode cX3_draftClosed 62 = .ok (.aload_n 0, 1) := by decide +kernel
theorem dX3_draftClosed_63 : decode cX3_draftClosed 63 = .ok (.getfield 28, 3) := by decide +kernel
theorem dX3_draftClosed_66 : decode cX3_draftClosed 66 = .ok (.iload 5, 2) := by decide +kernel
theorem dX3_draftClosed_68 : decode cX3_draftClosed 68 = .ok (.invokevirtual 105, 3) := by decide +kernel
theorem dX3_draftClosed_71 : decode cX3_draftClosed 71 = .ok (.iload_n 2, 1) := by decide +kernel
theorem dX3_draftClosed_72 : decode cX3_draftClosed 72 = .ok (.isub, 1) := by decide +kernel
theorem dX3_draftClosed_73 : decode cX3_draftClosed 73 = .ok (.invokevirtual 43, 3) := by decide +kernel
theorem dX3_draftClosed_76 : decode cX3_draftClosed 76 = .ok (.goto 46, 3) := by decide +kernel
theorem dX3_draftClosed_79 : decode cX3_draftClosed 79 = .ok (.iload 5, 2) := by decide +kernel
theorem dX3_draftClosed_81 : decode cX3_draftClosed 81 = .ok (.iload 4, 2) := by decide +kernel
theorem dX3_draftClosed_83 : decode cX3_draftClosed 83 = .ok (.if_icmp .ne 22, 3) := by decide +kernel
theorem dX3_draftClosed_86 : decode cX3_draftClosed 86 = .ok (.aload_n 0, 1) := by decide +kernel
theorem dX3_draftClosed_87 : decode cX3_draftClosed 87 = .ok (.getfield 32, 3) := by decide +kernel
theorem dX3_draftClosed_90 : decode cX3_draftClosed 90 = .ok (.aload_n 0, 1) := by decide +kernel
theorem dX3_draftClosed_91 : decode cX3_draftClosed 91 = .ok (.getfield 28, 3) := by decide +kernel
theorem dX3_draftClosed_94 : decode cX3_draftClosed 94 = .ok (.iload 5, 2) := by decide +kernel
theorem dX3_draftClosed_96 : decode cX3_draftClosed 96 = .ok (.invokevirtual 105, 3) := by decide +kernel
theorem dX3_draftClosed_99 : decode cX3_draftClosed 99 = .ok (.invokevirtual 43, 3) := by decide +kernel
theorem dX3_draftClosed_102 : decode cX3_draftClosed 102 = .ok (.goto 20, 3) := by decide +kernel
theorem dX3_draftClosed_105 : decode cX3_draftClosed 105 = .ok (.aload_n 0, 1) := by decide +kernel
theorem dX3_draftClosed_106 : decode cX3_draftClosed 106 = .ok (.getfield 32, 3) := by decide +kernel
theorem dX3_draftClosed_109 : decode cX3_draftClosed 109 = .ok (.aload_n 0, 1) := by decide +kernel
theorem dX3_draftClosed_110 : decode cX3_draftClosed 110 = .ok (.getfield 28, 3) := by decide +kernel
theorem dX3_draftClosed_113 : decode cX3_draftClosed 113 = .ok (.iload 5, 2) := by decide +kernel
theorem dX3_draftClosed_115 : decode cX3_draftClosed 115 = .ok (.iload 5, 2) := by decide +kernel
theorem dX3_draftClosed_117 : decode cX3_draftClosed 117 = .ok (.iconst 1, 1) := by decide +kernel
theorem dX3_draftClosed_118 : decode cX3_draftClosed 118 = .ok (.iadd, 1) := by decide +kernel
theorem dX3_draftClosed_119 : decode cX3_draftClosed 119 = .ok (.invokevirtual 200, 3) := by decide +kernel
theorem dX3_draftClosed_122 : decode cX3_draftClosed 122 = .ok (.iinc 5 1, 3) := by decide +kernel
theorem dX3_draftClosed_125 : decode cX3_draftClosed 125 = .ok (.goto (-96), 3) := by decide +kernel
theorem dX3_draftClosed_128 : decode cX3_draftClosed 128 = .ok (.return_, 1) := by decide +kernel
set_option maxRecDepth 20000 in
theorem ggX3_draftWithoutTentative_X0_clear : GoodIn wsX3_draftWithoutTentative wsX0_clear := goodIn_r _ [7, 8, 63, 64, 65, 66, 67] (by decide +kernel) (by decide +kernel)
set_option maxRecDepth 20000 in
theorem gX3_draftWithoutTentative_X0_clear : GoodIn wsX3_draftWithoutTentative (wsV RX3 197 RX0 yX0_clear wsX0_clear) := goodIn_app (goodIn_of _ (by decide +kernel)) ggX3_draftWithoutTentative_X0_clear
set_option maxRecDepth 20000 in
theorem ggX3_draftWithoutTentative_X0_count : GoodIn wsX3_draftWithoutTentative wsX0_count := goodIn_r _ [12, 8, 63, 64, 65, 66, 67] (by decide +kernel) (by decide +kernel)
set_option maxRecDepth 20000 in
theorem gX3_draftWithoutTentative_X0_count : GoodIn wsX3_draftWithoutTentative (wsV RX3 156 RX0 yX0_count wsX0_count) := goodIn_app (goodIn_of _ (by decide +kernel)) ggX3_draftWithoutTentative_X0_count
set_option maxRecDepth 20000 in
theorem ggX3_draftWithoutTentative_X0_kindAt : GoodIn wsX3_draftWithoutTentative wsX0_kindAt := goodIn_r _ [16, 17, 18, 19, 20, 21, 22, 23, 63, 64, 65, 66, 67, 68] (by decide +kernel) (by decide +kernel)
set_option maxRecDepth 20000 in
theorem gX3_draftWithoutTentative_X0_kindAt : GoodIn wsX3_draftWithoutTentative (wsV RX3 164 RX0 yX0_kindAt wsX0_kindAt) := goodIn_app (goodIn_of _ (by decide +kernel)) ggX3_draftWithoutTentative_X0_kindAt
set_option maxRecDepth 20000 in
theorem ggX3_draftWithoutTentative_X0_lengthAt : GoodIn wsX3_draftWithoutTentative wsX0_lengthAt := goodIn_r _ [27, 28, 18, 19, 20, 21, 22, 23, 63, 64, 65, 66, 67, 68] (by decide +kernel) (by decide +kernel)
set_option maxRecDepth 20000 in
theorem gX3_draftWithoutTentative_X0_lengthAt : GoodIn wsX3_draftWithoutTentative (wsV RX3 105 RX0 yX0_lengthAt wsX0_lengthAt) := goodIn_app (goodIn_of _ (by decide +kernel)) ggX3_draftWithoutTentative_X0_lengthAt
set_option maxRecDepth 20000 in
theorem ggX3_draftWithoutTentative_X0_addEmpty : GoodIn wsX3_draftWithoutTentative wsX0_addEmpty := goodIn_r _ [32, 33, 34, 35, 6, 36, 8, 17, 28, 37, 38, 18, 19, 20, 21, 22, 23, 39, 40, 41, 42, 63, 64, 65, 66, 67, 68] (by decide +kernel) (by decide +kernel)
set_option maxRecDepth 20000 in
theorem gX3_draftWithoutTentative_X0_addEmpty : GoodIn wsX3_draftWithoutTentative (wsV RX3 43 RX0 yX0_addEmpty wsX0_addEmpty) := goodIn_app (goodIn_of _ (by decide +kernel)) ggX3_draftWithoutTentative_X0_addEmpty
set_option maxRecDepth 20000 in
theorem ggX3_draftWithoutTentative_X0_addRange : GoodIn wsX3_draftWithoutTentative wsX0_addRange := goodIn_r _ [46, 47, 14, 15, 6, 16, 17, 18, 19, 20, 21, 22, 23, 48, 25, 26, 27, 28, 49, 50, 51, 52, 37, 53, 54, 55, 56, 38, 33, 34, 35, 36, 8, 39, 40, 41, 42, 63, 64, 65, 66, 67, 68] (by decide +kernel) (by decide +kernel)
set_option maxRecDepth 20000 in
theorem gX3_draftWithoutTentative_X0_addRange : GoodIn wsX3_draftWithoutTentative (wsV RX3 200 RX0 yX0_addRange wsX0_addRange) := goodIn_app (goodIn_of _ (by decide +kernel)) ggX3_draftWithoutTentative_X0_addRange
theorem dX3_draftWithoutTentative_0 : decode cX3_draftWithoutTentative 0 = .ok (.aload_n 0, 1) := by decide +kernel
theorem dX3_draftWithoutTentative_1 : decode cX3_draftWithoutTentative 1 = .ok (.getfield 32, 3) := by decide +kernel
theorem dX3_draftWithoutTentative_4 : decode cX3_draftWithoutTentative 4 = .ok (.invokevirtual 197, 3) := by decide +kernel
theorem dX3_draftWithoutTentative_7 : decode cX3_draftWithoutTentative 7 = .ok (.iconst 0, 1) := by decide +kernel
theorem dX3_draftWithoutTentative_8 : decode cX3_draftWithoutTentative 8 = .ok (.istore_n 1, 1) := by decide +kernel
theorem dX3_draftWithoutTentative_9 : decode cX3_draftWithoutTentative 9 = .ok (.iload_n 1, 1) := by decide +kernel
theorem dX3_draftWithoutTentative_10 : decode cX3_draftWithoutTentative 10 = .ok (.aload_n 0, 1) := by decide +kernel
theorem dX3_draftWithoutTentative_11 : decode cX3_draftWithoutTentative 11 = .ok (.getfield 28, 3) := by decide +kernel
theorem dX3_draftWithoutTentative_14 : decode cX3_draftWithoutTentative 14 = .ok (.invokevirtual 156, 3) := by decide +kernel
theorem dX3_draftWithoutTentative_17 : decode cX3_draftWithoutTentative 17 = .ok (.if_icmp .ge 54, 3) := by decide +kernel
theorem dX3_draftWithoutTentative_20 : decode cX3_draftWithoutTentative 20 = .ok (.aload_n 0, 1) := by decide +kernel
theorem dX3_draftWithoutTentative_21 : decode cX3_draftWithoutTentative 21 = .ok (.getfield 28, 3) := by decide +kernel
theorem dX3_draftWithoutTentative_24 : decode cX3_draftWithoutTentative 24 = .ok (.iload_n 1, 1) := by decide +kernel
theorem dX3_draftWithoutTentative_25 : decode cX3_draftWithoutTentative 25 = .ok (.invokevirtual 164, 3) := by decide +kernel
theorem dX3_draftWithoutTentative_28 : decode cX3_draftWithoutTentative 28 = .ok (.iconst 1, 1) := by decide +kernel
theorem dX3_draftWithoutTentative_29 : decode cX3_draftWithoutTentative 29 = .ok (.if_icmp .ne 21, 3) := by decide +kernel
theorem dX3_draftWithoutTentative_32 : decode cX3_draftWithoutTentative 32 = .ok (.aload_n 0, 1) := by decide +kernel
theorem dX3_draftWithoutTentative_33 : decode cX3_draftWithoutTentative 33 = .ok (.getfield 32, 3) := by decide +kernel
theorem dX3_draftWithoutTentative_36 : decode cX3_draftWithoutTentative 36 = .ok (.aload_n 0, 1) := by decide +kernel
theorem dX3_draftWithoutTentative_37 : decode cX3_draftWithoutTentative 37 = .ok (.getfield 28, 3) := by decide +kernel
theorem dX3_draftWithoutTentative_40 : decode cX3_draftWithoutTentative 40 = .ok (.iload_n 1, 1) := by decide +kernel
theorem dX3_draftWithoutTentative_41 : decode cX3_draftWithoutTentative 41 = .ok (.invokevirtual 105, 3) := by decide +kernel
theorem dX3_draftWithoutTentative_44 : decode cX3_draftWithoutTentative 44 = .ok (.invokevirtual 43, 3) := by decide +kernel
theorem dX3_draftWithoutTentative_47 : decode cX3_draftWithoutTentative 47 = .ok (.goto 18, 3) := by decide +kernel
theorem dX3_draftWithoutTentative_50 : decode cX3_draftWithoutTentative 50 = .ok (.aload_n 0, 1) := by decide +kernel
theorem dX3_draftWithoutTentative_51 : decode cX3_draftWithoutTentative 51 = .ok (.getfield 32, 3) := by decide +kernel
theorem dX3_draftWithoutTentative_54 : decode cX3_draftWithoutTentative 54 = .ok (.aload_n 0, 1) := by decide +kernel
theorem dX3_draftWithoutTentative_55 : decode cX3_draftWithoutTentative 55 = .ok (.getfield 28, 3) := by decide +kernel
theorem dX3_draftWithoutTentative_58 : decode cX3_draftWithoutTentative 58 = .ok (.iload_n 1, 1) := by decide +kernel
theorem dX3_draftWithoutTentative_59 : decode cX3_draftWithoutTentative 59 = .ok (.iload_n 1, 1) := by decide +kernel
theorem dX3_draftWithoutTentative_60 : decode cX3_draftWithoutTentative 60 = .ok (.iconst 1, 1) := by decide +kernel
theorem dX3_draftWithoutTentative_61 : decode cX3_draftWithoutTentative 61 = .ok (.iadd, 1) := by decide +kernel
theorem dX3_draftWithoutTentative_62 : decode cX3_draftWithoutTentative 62 = .ok (.invokevirtual 200, 3) := by decide +kernel
theorem dX3_draftWithoutTentative_65 : decode cX3_draftWithoutTentative 65 = .ok (.iinc 1 1, 3) := by decide +kernel
theorem dX3_draftWithoutTentative_68 : decode cX3_draftWithoutTentative 68 = .ok (.goto (-59), 3) := by decide +kernel
theorem dX3_draftWithoutTentative_71 : decode cX3_draftWithoutTentative 71 = .ok (.return_, 1) := by decide +kernel
set_option maxRecDepth 20000 in
theorem ggX3_draftMovedBefore_X0_clear : GoodIn wsX3_draftMovedBefore wsX0_clear := goodIn_r _ [7, 8, 62, 63, 64, 65, 66] (by decide +kernel) (by decide +kernel)
set_option maxRecDepth 20000 in
theorem gX3_draftMovedBefore_X0_clear : GoodIn wsX3_draftMovedBefore (wsV RX3 197 RX0 yX0_clear wsX0_clear) := goodIn_app (goodIn_of _ (by decide +kernel)) ggX3_draftMovedBefore_X0_clear
set_option maxRecDepth 20000 in
theorem ggX3_draftMovedBefore_X0_addRange : GoodIn wsX3_draftMovedBefore wsX0_addRange := goodIn_r _ [12, 13, 14, 15, 6, 16, 17, 18, 19, 20, 21, 22, 23, 24, 25, 26, 27, 28, 29, 30, 31, 32, 33, 34, 35, 36, 37, 38, 39, 40, 41, 42, 8, 43, 44, 45, 46, 62, 63, 64, 65, 66, 67] (by decide +kernel) (by decide +kernel)
set_option maxRecDepth 20000 in
theorem gX3_draftMovedBefore_X0_addRange : GoodIn wsX3_draftMovedBefore (wsV RX3 200 RX0 yX0_addRange wsX0_addRange) := goodIn_app (goodIn_of _ (by decide +kernel)) ggX3_draftMovedBefore_X0_addRange
set_option maxRecDepth 20000 in
theorem ggX3_draftMovedBefore_X0_lengthAt : GoodIn wsX3_draftMovedBefore wsX0_lengthAt := goodIn_r _ [27, 28, 18, 19, 20, 21, 22, 23, 62, 63, 64, 65, 66, 67] (by decide +kernel) (by decide +kernel)
set_option maxRecDepth 20000 in
theorem gX3_draftMovedBefore_X0_lengthAt : GoodIn wsX3_draftMovedBefore (wsV RX3 105 RX0 yX0_lengthAt wsX0_lengthAt) := goodIn_app (goodIn_of _ (by decide +kernel)) ggX3_draftMovedBefore_X0_lengthAt
set_option maxRecDepth 20000 in
theorem ggX3_draftMovedBefore_X0_addEmpty : GoodIn wsX3_draftMovedBefore wsX0_addEmpty := goodIn_r _ [51, 39, 40, 41, 6, 42, 8, 17, 28, 33, 38, 18, 19, 20, 21, 22, 23, 43, 44, 45, 46, 62, 63, 64, 65, 66, 67] (by decide +kernel) (by decide +kernel)
set_option maxRecDepth 20000 in
theorem gX3_draftMovedBefore_X0_addEmpty : GoodIn wsX3_draftMovedBefore (wsV RX3 43 RX0 yX0_addEmpty wsX0_addEmpty) := goodIn_app (goodIn_of _ (by decide +kernel)) ggX3_draftMovedBefore_X0_addEmpty
set_option maxRecDepth 20000 in
theorem ggX3_draftMovedBefore_X0_count : GoodIn wsX3_draftMovedBefore wsX0_count := goodIn_r _ [55, 8, 62, 63, 64, 65, 66] (by decide +kernel) (by decide +kernel)
set_option maxRecDepth 20000 in
theorem gX3_draftMovedBefore_X0_count : GoodIn wsX3_draftMovedBefore (wsV RX3 156 RX0 yX0_count wsX0_count) := goodIn_app (goodIn_of _ (by decide +kernel)) ggX3_draftMovedBefore_X0_count
theorem dX3_draftMovedBefore_0 : decode cX3_draftMovedBefore 0 = .ok (.aload_n 0, 1) := by decide +kernel
theorem dX3_draftMovedBefore_1 : decode cX3_draftMovedBefore 1 = .ok (.getfield 32, 3) := by decide +kernel
theorem dX3_draftMovedBefore_4 : decode cX3_draftMovedBefore 4 = .ok (.invokevirtual 197, 3) := by decide +kernel
theorem dX3_draftMovedBefore_7 : decode cX3_draftMovedBefore 7 = .ok (.aload_n 0, 1) := by decide +kernel
theorem dX3_draftMovedBefore_8 : decode cX3_draftMovedBefore 8 = .ok (.getfield 32, 3) := by decide +kernel
theorem dX3_draftMovedBefore_11 : decode cX3_draftMovedBefore 11 = .ok (.aload_n 0, 1) := by decide +kernel
theorem dX3_draftMovedBefore_12 : decode cX3_draftMovedBefore 12 = .ok (.getfield 28, 3) := by decide +kernel
theorem dX3_draftMovedBefore_15 : decode cX3_draftMovedBefore 15 = .ok (.iconst 0, 1) := by decide +kernel
theorem dX3_draftMovedBefore_16 : decode cX3_draftMovedBefore 16 = .ok (.iload_n 1, 1) := by decide +kernel
theorem dX3_draftMovedBefore_17 : decode cX3_draftMovedBefore 17 = .ok (.invokevirtual 200, 3) := by decide +kernel
theorem dX3_draftMovedBefore_20 : decode cX3_draftMovedBefore 20 = .ok (.aload_n 0, 1) := by decide +kernel
theorem dX3_draftMovedBefore_21 : decode cX3_draftMovedBefore 21 = .ok (.getfield 32, 3) := by decide +kernel
theorem dX3_draftMovedBefore_24 : decode cX3_draftMovedBefore 24 = .ok (.aload_n 0, 1) := by decide +kernel
theorem dX3_draftMovedBefore_25 : decode cX3_draftMovedBefore 25 = .ok (.getfield 28, 3) := by decide +kernel
theorem dX3_draftMovedBefore_28 : decode cX3_draftMovedBefore 28 = .ok (.iload_n 1, 1) := by decide +kernel
theorem dX3_draftMovedBefore_29 : decode cX3_draftMovedBefore 29 = .ok (.iconst 1, 1) := by decide +kernel
theorem dX3_draftMovedBefore_30 : decode cX3_draftMovedBefore 30 = .ok (.iadd, 1) := by decide +kernel
theorem dX3_draftMovedBefore_31 : decode cX3_draftMovedBefore 31 = .ok (.iload_n 1, 1) := by decide +kernel
theorem dX3_draftMovedBefore_32 : decode cX3_draftMovedBefore 32 = .ok (.iconst 2, 1) := by decide +kernel
theorem dX3_draftMovedBefore_33 : decode cX3_draftMovedBefore 33 = .ok (.iadd, 1) := by decide +kernel
theorem dX3_draftMovedBefore_34 : decode cX3_draftMovedBefore 34 = .ok (.invokevirtual 200, 3) := by decide +kernel
theorem dX3_draftMovedBefore_37 : decode cX3_draftMovedBefore 37 = .ok (.aload_n 0, 1) := by decide +kernel
theorem dX3_draftMovedBefore_38 : decode cX3_draftMovedBefore 38 = .ok (.getfield 32, 3) := by decide +kernel
theorem dX3_draftMovedBefore_41 : decode cX3_draftMovedBefore 41 = .ok (.aload_n 0, 1) := by decide +kernel
theorem dX3_draftMovedBefore_42 : decode cX3_draftMovedBefore 42 = .ok (.getfield 28, 3) := by decide +kernel
theorem dX3_draftMovedBefore_45 : decode cX3_draftMovedBefore 45 = .ok (.iload_n 1, 1) := by decide +kernel
theorem dX3_draftMovedBefore_46 : decode cX3_draftMovedBefore 46 = .ok (.invokevirtual 105, 3) := by decide +kernel
theorem dX3_draftMovedBefore_49 : decode cX3_draftMovedBefore 49 = .ok (.invokevirtual 43, 3) := by decide +kernel
theorem dX3_draftMovedBefore_52 : decode cX3_draftMovedBefore 52 = .ok (.aload_n 0, 1) := by decide +kernel
theorem dX3_draftMovedBefore_53 : decode cX3_draftMovedBefore 53 = .ok (.getfield 32, 3) := by decide +kernel
theorem dX3_draftMovedBefore_56 : decode cX3_draftMovedBefore 56 = .ok (.aload_n 0, 1) := by decide +kernel
theorem dX3_draftMovedBefore_57 : decode cX3_draftMovedBefore 57 = .ok (.getfield 28, 3) := by decide +kernel
theorem dX3_draftMovedBefore_60 : decode cX3_draftMovedBefore 60 = .ok (.iload_n 1, 1) := by decide +kernel
theorem dX3_draftMovedBefore_61 : decode cX3_draftMovedBefore 61 = .ok (.iconst 2, 1) := by decide +kernel
theorem dX3_draftMovedBefore_62 : decode cX3_draftMovedBefore 62 = .ok (.iadd, 1) := by decide +kernel
theorem dX3_draftMovedBefore_63 : decode cX3_draftMovedBefore 63 = .ok (.aload_n 0, 1) := by decide +kernel
theorem dX3_draftMovedBefore_64 : decode cX3_draftMovedBefore 64 = .ok (.getfield 28, 3) := by decide +kernel
theorem dX3_draftMovedBefore_67 : decode cX3_draftMovedBefore 67 = .ok (.invokevirtual 156, 3) := by decide +kernel
theorem dX3_draftMovedBefore_70 : decode cX3_draftMovedBefore 70 = .ok (.invokevirtual 200, 3) := by decide +kernel
theorem dX3_draftMovedBefore_73 : decode cX3_draftMovedBefore 73 = .ok (.return_, 1) := by decide +kernel
set_option maxRecDepth 20000 in
theorem ggX3_makeEmpty_X0_lengthAt : GoodIn wsX3_makeEmpty wsX0_lengthAt := goodIn_r _ [6, 7, 8, 9, 10, 11, 12, 13, 90, 91, 92, 93, 94, 95] (by decide +kernel) (by decide +kernel)
set_option maxRecDepth 20000 in
theorem gX3_makeEmpty_X0_lengthAt : GoodIn wsX3_makeEmpty (wsV RX3 105 RX0 yX0_lengthAt wsX0_lengthAt) := goodIn_app (goodIn_of _ (by decide +kernel)) ggX3_makeEmpty_X0_lengthAt
set_option maxRecDepth 20000 in
theorem ggX3_makeEmpty_X3_draftInPlaceOf : GoodIn wsX3_makeEmpty wsX3_draftInPlaceOf := goodIn_r _ [18, 19, 1, 20, 21, 22, 5, 23, 24, 25, 26, 27, 28, 29, 30, 31, 32, 33, 8, 9, 10, 11, 12, 13, 34, 3, 4, 6, 7, 35, 36, 37, 38, 39, 40, 41, 42, 43, 44, 45, 46, 47, 48, 49, 50, 51, 52, 53, 2, 54, 55, 56, 57, 58, 59, 60, 61, 84, 85, 86, 87, 88, 89, 90, 91, 92, 93, 94, 95] (by decide +kernel) (by decide +kernel)
set_option maxRecDepth 20000 in
theorem gX3_makeEmpty_X3_draftInPlaceOf : GoodIn wsX3_makeEmpty (wsV RX3 80 RX3 yX3_draftInPlaceOf wsX3_draftInPlaceOf) := goodIn_app (goodIn_of _ (by decide +kernel)) ggX3_makeEmpty_X3_draftInPlaceOf
set_option maxRecDepth 20000 in
theorem ggX3_makeEmpty_X3_change : GoodIn wsX3_makeEmpty wsX3_change := goodIn_r _ [65, 19, 66, 1, 58, 59, 60, 5, 61, 24, 67, 68, 69, 70, 71, 72, 73, 74, 75, 76, 77, 78, 33, 7, 39, 44, 79, 80, 81, 11, 82, 13, 83, 9, 10, 12, 84, 85, 86, 87, 88, 89, 90, 91, 92, 93, 94, 96, 97, 98, 95] (by decide +kernel) (by decide +kernel)
set_option maxRecDepth 20000 in
theorem gX3_makeEmpty_X3_change : GoodIn wsX3_makeEmpty (wsV RX3 87 RX3 yX3_change wsX3_change) := goodIn_app (goodIn_of _ (by decide +kernel)) ggX3_makeEmpty_X3_change
theorem dX3_makeEmpty_0 : decode cX3_makeEmpty 0 = .ok (.aload_n 0, 1) := by decide +kernel
theorem dX3_makeEmpty_1 : decode cX3_makeEmpty 1 = .ok (.getfield 28, 3) := by decide +kernel
theorem dX3_makeEmpty_4 : decode cX3_makeEmpty 4 = .ok (.iload_n 1, 1) := by decide +kernel
theorem dX3_makeEmpty_5 : decode cX3_makeEmpty 5 = .ok (.invokevirtual 105, 3) := by decide +kernel
theorem dX3_makeEmpty_8 : decode cX3_makeEmpty 8 = .ok (.istore_n 2, 1) := by decide +kernel
theorem dX3_makeEmpty_9 : decode cX3_makeEmpty 9 = .ok (.aload_n 0, 1) := by decide +kernel
theorem dX3_makeEmpty_10 : decode cX3_makeEmpty 10 = .ok (.iload_n 1, 1) := by decide +kernel
theorem dX3_makeEmpty_11 : decode cX3_makeEmpty 11 = .ok (.iconst 0, 1) := by decide +kernel
theorem dX3_makeEmpty_12 : decode cX3_makeEmpty 12 = .ok (.iload_n 2, 1) := by decide +kernel
theorem dX3_makeEmpty_13 : decode cX3_makeEmpty 13 = .ok (.iconst 0, 1) := by decide +kernel
theorem dX3_makeEmpty_14 : decode cX3_makeEmpty 14 = .ok (.iconst (-1), 1) := by decide +kernel
theorem dX3_makeEmpty_15 : decode cX3_makeEmpty 15 = .ok (.invokevirtual 80, 3) := by decide +kernel
theorem dX3_makeEmpty_18 : decode cX3_makeEmpty 18 = .ok (.aload_n 0, 1) := by decide +kernel
theorem dX3_makeEmpty_19 : decode cX3_makeEmpty 19 = .ok (.invokevirtual 87, 3) := by decide +kernel
theorem dX3_makeEmpty_22 : decode cX3_makeEmpty 22 = .ok (.ifCond .eq 7, 3) := by decide +kernel
theorem dX3_makeEmpty_25 : decode cX3_makeEmpty 25 = .ok (.iload_n 2, 1) := by decide +kernel
theorem dX3_makeEmpty_26 : decode cX3_makeEmpty 26 = .ok (.goto 4, 3) := by decide +kernel
theorem dX3_makeEmpty_29 : decode cX3_makeEmpty 29 = .ok (.iconst (-1), 1) := by decide +kernel
theorem dX3_makeEmpty_30 : decode cX3_makeEmpty 30 = .ok (.ireturn, 1) := by decide +kernel
set_option maxRecDepth 20000 in
theorem ggX3_change_X0_count : GoodIn wsX3_change wsX0_count := goodIn_r _ [8, 9, 42, 43, 44, 45, 46] (by decide +kernel) (by decide +kernel)
set_option maxRecDepth 20000 in
theorem gX3_change_X0_count : GoodIn wsX3_change (wsV RX3 156 RX0 yX0_count wsX0_count) := goodIn_app (goodIn_of _ (by decide +kernel)) ggX3_change_X0_count
set_option maxRecDepth 20000 in
theorem ggX3_change_X1_countWrite : GoodIn wsX3_change wsX1_countWrite := goodIn_r _ [14, 15, 16, 17, 47, 48, 49] (by decide +kernel) (by decide +kernel)
set_option maxRecDepth 20000 in
theorem gX3_change_X1_countWrite : GoodIn wsX3_change (wsV RX3 208 RX1 yX1_countWrite wsX1_countWrite) := goodIn_app (goodIn_of _ (by decide +kernel)) ggX3_change_X1_countWrite
set_option maxRecDepth 20000 in
theorem ggX3_change_X0_takeOver : GoodIn wsX3_change wsX0_takeOver := goodIn_r _ [21, 22, 23, 24, 25, 9, 26, 27, 28, 29, 30, 31, 32, 33, 34, 35, 42, 43, 44, 45, 46, 50] (by decide +kernel) (by decide +kernel)
set_option maxRecDepth 20000 in
theorem gX3_change_X0_takeOver : GoodIn wsX3_change (wsV RX3 211 RX0 yX0_takeOver wsX0_takeOver) := goodIn_app (goodIn_of _ (by decide +kernel)) ggX3_change_X0_takeOver
theorem dX3_change_0 : decode cX3_change 0 = .ok (.aload_n 0, 1) := by decide +kernel
theorem dX3_change_1 : decode cX3_change 1 = .ok (.getfield 32, 3) := by decide +kernel
theorem dX3_change_4 : decode cX3_change 4 = .ok (.invokevirtual 156, 3) := by decide +kernel
theorem dX3_change_7 : decode cX3_change 7 = .ok (.iconst 4, 1) := by decide +kernel
theorem dX3_change_8 : decode cX3_change 8 = .ok (.iadd, 1) := by decide +kernel
theorem dX3_change_9 : decode cX3_change 9 = .ok (.iconst 1, 1) := by decide +kernel
theorem dX3_change_10 : decode cX3_change 10 = .ok (.isub, 1) := by decide +kernel
theorem dX3_change_11 : decode cX3_change 11 = .ok (.iconst 4, 1) := by decide +kernel
theorem dX3_change_12 : decode cX3_change 12 = .ok (.idiv, 1) := by decide +kernel
theorem dX3_change_13 : decode cX3_change 13 = .ok (.istore_n 1, 1) := by decide +kernel
theorem dX3_change_14 : decode cX3_change 14 = .ok (.iconst 0, 1) := by decide +kernel
theorem dX3_change_15 : decode cX3_change 15 = .ok (.istore_n 2, 1) := by decide +kernel
theorem dX3_change_16 : decode cX3_change 16 = .ok (.iload_n 2, 1) := by decide +kernel
theorem dX3_change_17 : decode cX3_change 17 = .ok (.iload_n 1, 1) := by decide +kernel
theorem dX3_change_18 : decode cX3_change 18 = .ok (.iconst 1, 1) := by decide +kernel
theorem dX3_change_19 : decode cX3_change 19 = .ok (.iadd, 1) := by decide +kernel
theorem dX3_change_20 : decode cX3_change 20 = .ok (.if_icmp .ge 21, 3) := by decide +kernel
theorem dX3_change_23 : decode cX3_change 23 = .ok (.aload_n 0, 1) := by decide +kernel
theorem dX3_change_24 : decode cX3_change 24 = .ok (.getfield 10, 3) := by decide +kernel
theorem dX3_change_27 : decode cX3_change 27 = .ok (.invokevirtual 208, 3) := by decide +kernel
theorem dX3_change_30 : decode cX3_change 30 = .ok (.ifCond .ne 5, 3) := by decide +kernel
theorem dX3_change_33 : decode cX3_change 33 = .ok (.iconst 0, 1) := by decide +kernel
theorem dX3_change_34 : decode cX3_change 34 = .ok (.ireturn, 1) := by decide +kernel
theorem dX3_change_35 : decode cX3_change 35 = .ok (.iinc 2 1, 3) := by decide +kernel
theorem dX3_change_38 : decode cX3_change 38 = .ok (.goto (-22), 3) := by decide +kernel
theorem dX3_change_41 : decode cX3_change 41 = .ok (.aload_n 0, 1) := by decide +kernel
theorem dX3_change_42 : decode cX3_change 42 = .ok (.getfield 28, 3) := by decide +kernel
theorem dX3_change_45 : decode cX3_change 45 = .ok (.aload_n 0, 1) := by decide +kernel
theorem dX3_change_46 : decode cX3_change 46 = .ok (.getfield 32, 3) := by decide +kernel
theorem dX3_change_49 : decode cX3_change 49 = .ok (.invokevirtual 211, 3) := by decide +kernel
theorem dX3_change_52 : decode cX3_change 52 = .ok (.iconst 1, 1) := by decide +kernel
theorem dX3_change_53 : decode cX3_change 53 = .ok (.ireturn, 1) := by decide +kernel
set_option maxRecDepth 20000 in
theorem ggX3_writeBlock_X1_countWrite : GoodIn wsX3_writeBlock wsX1_countWrite := goodIn_r _ [7, 8, 9, 10, 23, 24, 25] (by decide +kernel) (by decide +kernel)
set_option maxRecDepth 20000 in
theorem gX3_writeBlock_X1_countWrite : GoodIn wsX3_writeBlock (wsV RX3 208 RX1 yX1_countWrite wsX1_countWrite) := goodIn_app (goodIn_of _ (by decide +kernel)) ggX3_writeBlock_X1_countWrite
set_option maxRecDepth 20000 in
theorem ggX3_writeBlock_X2_set : GoodIn wsX3_writeBlock wsX2_set := goodIn_r _ [15, 16, 26] (by decide +kernel) (by decide +kernel)
set_option maxRecDepth 20000 in
theorem gX3_writeBlock_X2_set : GoodIn wsX3_writeBlock (wsV RX3 215 RX2 yX2_set wsX2_set) := goodIn_app (goodIn_of _ (by decide +kernel)) ggX3_writeBlock_X2_set
theorem dX3_writeBlock_0 : decode cX3_writeBlock 0 = .ok (.aload_n 0, 1) := by decide +kernel
theorem dX3_writeBlock_1 : decode cX3_writeBlock 1 = .ok (.getfield 10, 3) := by decide +kernel
theorem dX3_writeBlock_4 : decode cX3_writeBlock 4 = .ok (.invokevirtual 208, 3) := by decide +kernel
theorem dX3_writeBlock_7 : decode cX3_writeBlock 7 = .ok (.ifCond .ne 5, 3) := by decide +kernel
theorem dX3_writeBlock_10 : decode cX3_writeBlock 10 = .ok (.iconst 0, 1) := by decide +kernel
theorem dX3_writeBlock_11 : decode cX3_writeBlock 11 = .ok (.ireturn, 1) := by decide +kernel
theorem dX3_writeBlock_12 : decode cX3_writeBlock 12 = .ok (.aload_n 0, 1) := by decide +kernel
theorem dX3_writeBlock_13 : decode cX3_writeBlock 13 = .ok (.getfield 21, 3) := by decide +kernel
theorem dX3_writeBlock_16 : decode cX3_writeBlock 16 = .ok (.iload_n 1, 1) := by decide +kernel
theorem dX3_writeBlock_17 : decode cX3_writeBlock 17 = .ok (.iload_n 2, 1) := by decide +kernel
theorem dX3_writeBlock_18 : decode cX3_writeBlock 18 = .ok (.invokevirtual 215, 3) := by decide +kernel
theorem dX3_writeBlock_21 : decode cX3_writeBlock 21 = .ok (.iconst 1, 1) := by decide +kernel
theorem dX3_writeBlock_22 : decode cX3_writeBlock 22 = .ok (.ireturn, 1) := by decide +kernel
set_option maxRecDepth 20000 in
theorem ggX3_writeLedger_X1_countWrite : GoodIn wsX3_writeLedger wsX1_countWrite := goodIn_r _ [8, 9, 10, 11, 18, 19, 20] (by decide +kernel) (by decide +kernel)
set_option maxRecDepth 20000 in
theorem gX3_writeLedger_X1_countWrite : GoodIn wsX3_writeLedger (wsV RX3 208 RX1 yX1_countWrite wsX1_countWrite) := goodIn_app (goodIn_of _ (by decide +kernel)) ggX3_writeLedger_X1_countWrite
theorem dX3_writeLedger_0 : decode cX3_writeLedger 0 = .ok (.aload_n 0, 1) := by decide +kernel
theorem dX3_writeLedger_1 : decode cX3_writeLedger 1 = .ok (.getfield 10, 3) := by decide +kernel
theorem dX3_writeLedger_4 : decode cX3_writeLedger 4 = .ok (.invokevirtual 208, 3) := by decide +kernel
theorem dX3_writeLedger_7 : decode cX3_writeLedger 7 = .ok (.ifCond .ne 5, 3) := by decide +kernel
theorem dX3_writeLedger_10 : decode cX3_writeLedger 10 = .ok (.iconst 0, 1) := by decide +kernel
theorem dX3_writeLedger_11 : decode cX3_writeLedger 11 = .ok (.ireturn, 1) := by decide +kernel
theorem dX3_writeLedger_12 : decode cX3_writeLedger 12 = .ok (.aload_n 0, 1) := by decide +kernel
theorem dX3_writeLedger_13 : decode cX3_writeLedger 13 = .ok (.iload_n 1, 1) := by decide +kernel
theorem dX3_writeLedger_14 : decode cX3_writeLedger 14 = .ok (.putfield 39, 3) := by decide +kernel
theorem dX3_writeLedger_17 : decode cX3_writeLedger 17 = .ok (.aload_n 0, 1) := by decide +kernel
theorem dX3_writeLedger_18 : decode cX3_writeLedger 18 = .ok (.iconst 1, 1) := by decide +kernel
theorem dX3_writeLedger_19 : decode cX3_writeLedger 19 = .ok (.putfield 35, 3) := by decide +kernel
theorem dX3_writeLedger_22 : decode cX3_writeLedger 22 = .ok (.iconst 1, 1) := by decide +kernel
theorem dX3_writeLedger_23 : decode cX3_writeLedger 23 = .ok (.ireturn, 1) := by decide +kernel
set_option maxRecDepth 20000 in
theorem ggX3_moveAll_X0_findGap : GoodIn wsX3_moveAll wsX0_findGap := goodIn_r _ [7, 8, 9, 10, 11, 12, 13, 14, 15, 125, 126, 127, 128, 129, 130] (by decide +kernel) (by decide +kernel)
set_option maxRecDepth 20000 in
theorem gX3_moveAll_X0_findGap : GoodIn wsX3_moveAll (wsV RX3 218 RX0 yX0_findGap wsX0_findGap) := goodIn_app (goodIn_of _ (by decide +kernel)) ggX3_moveAll_X0_findGap
set_option maxRecDepth 20000 in
theorem ggX3_moveAll_X0_lengthAt : GoodIn wsX3_moveAll wsX0_lengthAt := goodIn_r _ [19, 20, 10, 11, 12, 13, 14, 15, 125, 126, 127, 128, 129, 130] (by decide +kernel) (by decide +kernel)
set_option maxRecDepth 20000 in
theorem gX3_moveAll_X0_lengthAt : GoodIn wsX3_moveAll (wsV RX3 105 RX0 yX0_lengthAt wsX0_lengthAt) := goodIn_app (goodIn_of _ (by decide +kernel)) ggX3_moveAll_X0_lengthAt
set_option maxRecDepth 20000 in
theorem ggX3_moveAll_X3_moveDown : GoodIn wsX3_moveAll wsX3_moveDown := goodIn_r _ [25, 26, 27, 28, 29, 24, 30, 1, 31, 32, 33, 34, 35, 36, 37, 38, 39, 40, 41, 6, 42, 8, 20, 10, 11, 12, 13, 14, 15, 16, 17, 18, 19, 43, 44, 45, 46, 47, 2, 48, 49, 50, 51, 52, 53, 54, 55, 56, 57, 58, 59, 60, 61, 62, 63, 64, 65, 66, 67, 68, 69, 70, 71, 72, 73, 74, 75, 76, 77, 78, 79, 80, 81, 9, 82, 83, 84, 85, 86, 87, 88, 89, 90, 91, 92, 93, 94, 95, 96, 97, 98, 99, 100, 101, 102, 103, 104, 105, 106, 107, 108, 109, 110, 111, 112, 113, 114, 115, 116, 117, 118, 119, 120, 121, 122, 123, 124, 125, 126, 127, 128, 129, 130, 131, 132, 133] (by decide +kernel) (by decide +kernel)
set_option maxRecDepth 20000 in
theorem gX3_moveAll_X3_moveDown : GoodIn wsX3_moveAll (wsV RX3 221 RX3 yX3_moveDown wsX3_moveDown) := goodIn_app (goodIn_of _ (by decide +kernel)) ggX3_moveAll_X3_moveDown
theorem dX3_moveAll_0 : decode cX3_moveAll 0 = .ok (.iconst 0, 1) := by decide +kernel
theorem dX3_moveAll_1 : decode cX3_moveAll 1 = .ok (.istore_n 1, 1) := by decide +kernel
theorem dX3_moveAll_2 : decode cX3_moveAll 2 = .ok (.iconst 0, 1) := by decide +kernel
theorem dX3_moveAll_3 : decode cX3_moveAll 3 = .ok (.istore_n 2, 1) := by decide +kernel
theorem dX3_moveAll_4 : decode cX3_moveAll 4 = .ok (.iload_n 2, 1) := by decide +kernel
theorem dX3_moveAll_5 : decode cX3_moveAll 5 = .ok (.bipush 16, 2) := by decide +kernel
theorem dX3_moveAll_7 : decode cX3_moveAll 7 = .ok (.if_icmp .ge 48, 3) := by decide +kernel
theorem dX3_moveAll_10 : decode cX3_moveAll 10 = .ok (.aload_n 0, 1) := by decide +kernel
theorem dX3_moveAll_11 : decode cX3_moveAll 11 = .ok (.getfield 28, 3) := by decide +kernel
theorem dX3_moveAll_14 : decode cX3_moveAll 14 = .ok (.invokevirtual 218, 3) := by decide +kernel
theorem dX3_moveAll_17 : decode cX3_moveAll 17 = .ok (.istore_n 3, 1) := by decide +kernel
theorem dX3_moveAll_18 : decode cX3_moveAll 18 = .ok (.iload_n 3, 1) := by decide +kernel
theorem dX3_moveAll_19 : decode cX3_moveAll 19 = .ok (.iconst (-1), 1) := by decide +kernel
theorem dX3_moveAll_20 : decode cX3_moveAll 20 = .ok (.if_icmp .ne 6, 3) := by decide +kernel
theorem dX3_moveAll_23 : decode cX3_moveAll 23 = .ok (.goto 32, 3) := by decide +kernel
theorem dX3_moveAll_26 : decode cX3_moveAll 26 = .ok (.iload_n 1, 1) := by decide +kernel
theorem dX3_moveAll_27 : decode cX3_moveAll 27 = .ok (.aload_n 0, 1) := by decide +kernel
theorem dX3_moveAll_28 : decode cX3_moveAll 28 = .ok (.getfield 28, 3) := by decide +kernel
theorem dX3_moveAll_31 : decode cX3_moveAll 31 = .ok (.iload_n 3, 1) := by decide +kernel
theorem dX3_moveAll_32 : decode cX3_moveAll 32 = .ok (.iconst 1, 1) := by decide +kernel
theorem dX3_moveAll_33 : decode cX3_moveAll 33 = .ok (.iadd, 1) := by decide +kernel
theorem dX3_moveAll_34 : decode cX3_moveAll 34 = .ok (.invokevirtual 105, 3) := by decide +kernel
theorem dX3_moveAll_37 : decode cX3_moveAll 37 = .ok (.iadd, 1) := by decide +kernel
theorem dX3_moveAll_38 : decode cX3_moveAll 38 = .ok (.istore_n 1, 1) := by decide +kernel
theorem dX3_moveAll_39 : decode cX3_moveAll 39 = .ok (.aload_n 0, 1) := by decide +kernel
theorem dX3_moveAll_40 : decode cX3_moveAll 40 = .ok (.iload_n 3, 1) := by decide +kernel
theorem dX3_moveAll_41 : decode cX3_moveAll 41 = .ok (.invokevirtual 221, 3) := by decide +kernel
theorem dX3_moveAll_44 : decode cX3_moveAll 44 = .ok (.ifCond .ne 5, 3) := by decide +kernel
theorem dX3_moveAll_47 : decode cX3_moveAll 47 = .ok (.iconst (-1), 1) := by decide +kernel
theorem dX3_moveAll_48 : decode cX3_moveAll 48 = .ok (.ireturn, 1) := by decide +kernel
theorem dX3_moveAll_49 : decode cX3_moveAll 49 = .ok (.iinc 2 1, 3) := by decide +kernel
theorem dX3_moveAll_52 : decode cX3_moveAll 52 = .ok (.goto (-48), 3) := by decide +kernel
theorem dX3_moveAll_55 : decode cX3_moveAll 55 = .ok (.aload_n 0, 1) := by decide +kernel
theorem dX3_moveAll_56 : decode cX3_moveAll 56 = .ok (.iconst 0, 1) := by decide +kernel
theorem dX3_moveAll_57 : decode cX3_moveAll 57 = .ok (.putfield 35, 3) := by decide +kernel
theorem dX3_moveAll_60 : decode cX3_moveAll 60 = .ok (.iload_n 1, 1) := by decide +kernel
theorem dX3_moveAll_61 : decode cX3_moveAll 61 = .ok (.ireturn, 1) := by decide +kernel
set_option maxRecDepth 20000 in
theorem ggX3_moveDown_X3_copyDown : GoodIn wsX3_moveDown wsX3_copyDown := goodIn_r _ [6, 7, 8, 9, 10, 11, 1, 12, 13, 14, 15, 16, 17, 18, 19, 20, 21, 22, 23, 24, 25, 26, 27, 28, 29, 30, 31, 32, 33, 34, 35, 5, 36, 37, 38, 39, 40, 41, 42, 43, 44, 45, 46, 47, 48, 49, 50, 51, 52, 53, 54, 55, 111, 112, 113, 114, 115, 116, 117, 118, 119, 120, 121, 122, 123, 124, 125] (by decide +kernel) (by decide +kernel)
set_option maxRecDepth 20000 in
theorem gX3_moveDown_X3_copyDown : GoodIn wsX3_moveDown (wsV RX3 225 RX3 yX3_copyDown wsX3_copyDown) := goodIn_app (goodIn_of _ (by decide +kernel)) ggX3_moveDown_X3_copyDown
set_option maxRecDepth 20000 in
theorem ggX3_moveDown_X3_draftMovedBefore : GoodIn wsX3_moveDown wsX3_draftMovedBefore := goodIn_r _ [59, 60, 7, 61, 62, 63, 19, 64, 21, 65, 66, 67, 68, 69, 70, 71, 72, 73, 23, 24, 25, 26, 27, 28, 74, 30, 31, 32, 22, 75, 76, 77, 78, 79, 80, 81, 82, 83, 84, 85, 86, 87, 88, 89, 53, 54, 55, 29, 90, 91, 92, 93, 94, 95, 96, 97, 111, 112, 113, 114, 115, 116, 117, 118, 119, 120, 121, 122] (by decide +kernel) (by decide +kernel)
set_option maxRecDepth 20000 in
theorem gX3_moveDown_X3_draftMovedBefore : GoodIn wsX3_moveDown (wsV RX3 228 RX3 yX3_draftMovedBefore wsX3_draftMovedBefore) := goodIn_app (goodIn_of _ (by decide +kernel)) ggX3_moveDown_X3_draftMovedBefore
set_option maxRecDepth 20000 in
theorem ggX3_moveDown_X3_change : GoodIn wsX3_moveDown wsX3_change := goodIn_r _ [101, 60, 37, 7, 94, 95, 96, 19, 97, 21, 39, 40, 41, 42, 43, 44, 45, 46, 102, 103, 104, 105, 73, 22, 79, 84, 106, 107, 108, 26, 109, 28, 110, 24, 25, 27, 111, 112, 113, 114, 115, 116, 117, 118, 119, 120, 121, 123, 124, 125, 122] (by decide +kernel) (by decide +kernel)
set_option maxRecDepth 20000 in
theorem gX3_moveDown_X3_change : GoodIn wsX3_moveDown (wsV RX3 87 RX3 yX3_change wsX3_change) := goodIn_app (goodIn_of _ (by decide +kernel)) ggX3_moveDown_X3_change
theorem dX3_moveDown_0 : decode cX3_moveDown 0 = .ok (.aload_n 0, 1) := by decide +kernel
theorem dX3_moveDown_1 : decode cX3_moveDown 1 = .ok (.iload_n 1, 1) := by decide +kernel
theorem dX3_moveDown_2 : decode cX3_moveDown 2 = .ok (.invokevirtual 225, 3) := by decide +kernel
theorem dX3_moveDown_5 : decode cX3_moveDown 5 = .ok (.ifCond .ne 5, 3) := by decide +kernel
theorem dX3_moveDown_8 : decode cX3_moveDown 8 = .ok (.iconst 0, 1) := by decide +kernel
theorem dX3_moveDown_9 : decode cX3_moveDown 9 = .ok (.ireturn, 1) := by decide +kernel
theorem dX3_moveDown_10 : decode cX3_moveDown 10 = .ok (.aload_n 0, 1) := by decide +kernel
theorem dX3_moveDown_11 : decode cX3_moveDown 11 = .ok (.iload_n 1, 1) := by decide +kernel
theorem dX3_moveDown_12 : decode cX3_moveDown 12 = .ok (.invokevirtual 228, 3) := by decide +kernel
theorem dX3_moveDown_15 : decode cX3_moveDown 15 = .ok (.aload_n 0, 1) := by decide +kernel
theorem dX3_moveDown_16 : decode cX3_moveDown 16 = .ok (.invokevirtual 87, 3) := by decide +kernel
theorem dX3_moveDown_19 : decode cX3_moveDown 19 = .ok (.ifCond .ne 5, 3) := by decide +kernel
theorem dX3_moveDown_22 : decode cX3_moveDown 22 = .ok (.iconst 0, 1) := by decide +kernel
theorem dX3_moveDown_23 : decode cX3_moveDown 23 = .ok (.ireturn, 1) := by decide +kernel
theorem dX3_moveDown_24 : decode cX3_moveDown 24 = .ok (.aload_n 0, 1) := by decide +kernel
theorem dX3_moveDown_25 : decode cX3_moveDown 25 = .ok (.iconst (-1), 1) := by decide +kernel
theorem dX3_moveDown_26 : decode cX3_moveDown 26 = .ok (.putfield 39, 3) := by decide +kernel
theorem dX3_moveDown_29 : decode cX3_moveDown 29 = .ok (.iconst 1, 1) := by decide +kernel
theorem dX3_moveDown_30 : decode cX3_moveDown 30 = .ok (.ireturn, 1) := by decide +kernel
set_option maxRecDepth 20000 in
theorem ggX3_copyDown_X0_beginAt : GoodIn wsX3_copyDown wsX0_beginAt := goodIn_r _ [15, 16, 17, 18, 19, 20, 21, 22, 23, 58, 59, 60, 61, 62, 63] (by decide +kernel) (by decide +kernel)
set_option maxRecDepth 20000 in
theorem gX3_copyDown_X0_beginAt : GoodIn wsX3_copyDown (wsV RX3 98 RX0 yX0_beginAt wsX0_beginAt) := goodIn_app (goodIn_of _ (by decide +kernel)) ggX3_copyDown_X0_beginAt
set_option maxRecDepth 20000 in
theorem ggX3_copyDown_X0_lengthAt : GoodIn wsX3_copyDown wsX0_lengthAt := goodIn_r _ [27, 17, 18, 19, 20, 21, 22, 23, 58, 59, 60, 61, 62, 63] (by decide +kernel) (by decide +kernel)
set_option maxRecDepth 20000 in
theorem gX3_copyDown_X0_lengthAt : GoodIn wsX3_copyDown (wsV RX3 105 RX0 yX0_lengthAt wsX0_lengthAt) := goodIn_app (goodIn_of _ (by decide +kernel)) ggX3_copyDown_X0_lengthAt
set_option maxRecDepth 20000 in
theorem ggX3_copyDown_X3_writeLedger : GoodIn wsX3_copyDown wsX3_writeLedger := goodIn_r _ [32, 33, 6, 34, 35, 36, 37, 38, 39, 40, 41, 42, 52, 53, 54, 55, 56, 57, 64, 65, 66] (by decide +kernel) (by decide +kernel)
set_option maxRecDepth 20000 in
theorem gX3_copyDown_X3_writeLedger : GoodIn wsX3_copyDown (wsV RX3 240 RX3 yX3_writeLedger wsX3_writeLedger) := goodIn_app (goodIn_of _ (by decide +kernel)) ggX3_copyDown_X3_writeLedger
set_option maxRecDepth 20000 in
theorem ggX3_copyDown_X2_at : GoodIn wsX3_copyDown wsX2_at := goodIn_r _ [22, 23, 63] (by decide +kernel) (by decide +kernel)
set_option maxRecDepth 20000 in
theorem gX3_copyDown_X2_at : GoodIn wsX3_copyDown (wsV RX3 127 RX2 yX2_at wsX2_at) := goodIn_app (goodIn_of _ (by decide +kernel)) ggX3_copyDown_X2_at
set_option maxRecDepth 20000 in
theorem ggX3_copyDown_X3_writeBlock : GoodIn wsX3_copyDown wsX3_writeBlock := goodIn_r _ [47, 33, 10, 35, 36, 37, 38, 39, 40, 41, 42, 48, 49, 50, 21, 51, 23, 52, 53, 54, 55, 56, 57, 64, 65, 66, 63] (by decide +kernel) (by decide +kernel)
set_option maxRecDepth 20000 in
theorem gX3_copyDown_X3_writeBlock : GoodIn wsX3_copyDown (wsV RX3 101 RX3 yX3_writeBlock wsX3_writeBlock) := goodIn_app (goodIn_of _ (by decide +kernel)) ggX3_copyDown_X3_writeBlock
theorem dX3_copyDown_0 : decode cX3_copyDown 0 = .ok (.aload_n 0, 1) := by decide +kernel
theorem dX3_copyDown_1 : decode cX3_copyDown 1 = .ok (.getfield 28, 3) := by decide +kernel
theorem dX3_copyDown_4 : decode cX3_copyDown 4 = .ok (.iload_n 1, 1) := by decide +kernel
theorem dX3_copyDown_5 : decode cX3_copyDown 5 = .ok (.invokevirtual 98, 3) := by decide +kernel
theorem dX3_copyDown_8 : decode cX3_copyDown 8 = .ok (.istore_n 2, 1) := by decide +kernel
theorem dX3_copyDown_9 : decode cX3_copyDown 9 = .ok (.aload_n 0, 1) := by decide +kernel
theorem dX3_copyDown_10 : decode cX3_copyDown 10 = .ok (.getfield 28, 3) := by decide +kernel
theorem dX3_copyDown_13 : decode cX3_copyDown 13 = .ok (.iload_n 1, 1) := by decide +kernel
theorem dX3_copyDown_14 : decode cX3_copyDown 14 = .ok (.iconst 1, 1) := by decide +kernel
theorem dX3_copyDown_15 : decode cX3_copyDown 15 = .ok (.iadd, 1) := by decide +kernel
theorem dX3_copyDown_16 : decode cX3_copyDown 16 = .ok (.invokevirtual 98, 3) := by decide +kernel
theorem dX3_copyDown_19 : decode cX3_copyDown 19 = .ok (.istore_n 3, 1) := by decide +kernel
theorem dX3_copyDown_20 : decode cX3_copyDown 20 = .ok (.bipush 8, 2) := by decide +kernel
theorem dX3_copyDown_22 : decode cX3_copyDown 22 = .ok (.aload_n 0, 1) := by decide +kernel
theorem dX3_copyDown_23 : decode cX3_copyDown 23 = .ok (.getfield 28, 3) := by decide +kernel
theorem dX3_copyDown_26 : decode cX3_copyDown 26 = .ok (.iload_n 1, 1) := by decide +kernel
theorem dX3_copyDown_27 : decode cX3_copyDown 27 = .ok (.invokevirtual 105, 3) := by decide +kernel
theorem dX3_copyDown_30 : decode cX3_copyDown 30 = .ok (.invokestatic 231, 3) := by decide +kernel
theorem dX3_copyDown_33 : decode cX3_copyDown 33 = .ok (.istore 4, 2) := by decide +kernel
theorem dX3_copyDown_35 : decode cX3_copyDown 35 = .ok (.aload_n 0, 1) := by decide +kernel
theorem dX3_copyDown_36 : decode cX3_copyDown 36 = .ok (.getfield 39, 3) := by decide +kernel
theorem dX3_copyDown_39 : decode cX3_copyDown 39 = .ok (.iconst (-1), 1) := by decide +kernel
theorem dX3_copyDown_40 : decode cX3_copyDown 40 = .ok (.if_icmp .ne 7, 3) := by decide +kernel
theorem dX3_copyDown_43 : decode cX3_copyDown 43 = .ok (.iconst 0, 1) := by decide +kernel
theorem dX3_copyDown_44 : decode cX3_copyDown 44 = .ok (.goto 5, 3) := by decide +kernel
theorem dX3_copyDown_47 : decode cX3_copyDown 47 = .ok (.iload 4, 2) := by decide +kernel
theorem dX3_copyDown_49 : decode cX3_copyDown 49 = .ok (.istore 5, 2) := by decide +kernel
theorem dX3_copyDown_51 : decode cX3_copyDown 51 = .ok (.iconst 0, 1) := by decide +kernel
theorem dX3_copyDown_52 : decode cX3_copyDown 52 = .ok (.aload_n 0, 1) := by decide +kernel
theorem dX3_copyDown_53 : decode cX3_copyDown 53 = .ok (.getfield 39, 3) := by decide +kernel
theorem dX3_copyDown_56 : decode cX3_copyDown 56 = .ok (.invokestatic 237, 3) := by decide +kernel
theorem dX3_copyDown_59 : decode cX3_copyDown 59 = .ok (.istore 6, 2) := by decide +kernel
theorem dX3_copyDown_61 : decode cX3_copyDown 61 = .ok (.iload 6, 2) := by decide +kernel
theorem dX3_copyDown_63 : decode cX3_copyDown 63 = .ok (.aload_n 0, 1) := by decide +kernel
theorem dX3_copyDown_64 : decode cX3_copyDown 64 = .ok (.getfield 28, 3) := by decide +kernel
theorem dX3_copyDown_67 : decode cX3_copyDown 67 = .ok (.iload_n 1, 1) := by decide +kernel
theorem dX3_copyDown_68 : decode cX3_copyDown 68 = .ok (.iconst 1, 1) := by decide +kernel
theorem dX3_copyDown_69 : decode cX3_copyDown 69 = .ok (.iadd, 1) := by decide +kernel
theorem dX3_copyDown_70 : decode cX3_copyDown 70 = .ok (.invokevirtual 105, 3) := by decide +kernel
theorem dX3_copyDown_73 : decode cX3_copyDown 73 = .ok (.if_icmp .ge 56, 3) := by decide +kernel
theorem dX3_copyDown_76 : decode cX3_copyDown 76 = .ok (.iload 5, 2) := by decide +kernel
theorem dX3_copyDown_78 : decode cX3_copyDown 78 = .ok (.ifCond .ne 18, 3) := by decide +kernel
theorem dX3_copyDown_81 : decode cX3_copyDown 81 = .ok (.aload_n 0, 1) := by decide +kernel
theorem dX3_copyDown_82 : decode cX3_copyDown 82 = .ok (.iload 6, 2) := by decide +kernel
theorem dX3_copyDown_84 : decode cX3_copyDown 84 = .ok (.invokevirtual 240, 3) := by decide +kernel
theorem dX3_copyDown_87 : decode cX3_copyDown 87 = .ok (.ifCond .ne 5, 3) := by decide +kernel
theorem dX3_copyDown_90 : decode cX3_copyDown 90 = .ok (.iconst 0, 1) := by decide +kernel
theorem dX3_copyDown_91 : decode cX3_copyDown 91 = .ok (.ireturn, 1) := by decide +kernel
theorem dX3_copyDown_92 : decode cX3_copyDown 92 = .ok (.iload 4, 2) := by decide +kernel
theorem dX3_copyDown_94 : decode cX3_copyDown 94 = .ok (.istore 5, 2) := by decide +kernel
theorem dX3_copyDown_96 : decode cX3_copyDown 96 = .ok (.aload_n 0, 1) := by decide +kernel
theorem dX3_copyDown_97 : decode cX3_copyDown 97 = .ok (.iload_n 2, 1) := by decide +kernel
theorem dX3_copyDown_98 : decode cX3_copyDown 98 = .ok (.iload 6, 2) := by decide +kernel
theorem dX3_copyDown_100 : decode cX3_copyDown 100 = .ok (.iadd, 1) := by decide +kernel
theorem dX3_copyDown_101 : decode cX3_copyDown 101 = .ok (.aload_n 0, 1) := by decide +kernel
theorem dX3_copyDown_102 : decode cX3_copyDown 102 = .ok (.getfield 21, 3) := by decide +kernel
theorem dX3_copyDown_105 : decode cX3_copyDown 105 = .ok (.iload_n 3, 1) := by decide +kernel
theorem dX3_copyDown_106 : decode cX3_copyDown 106 = .ok (.iload 6, 2) := by decide +kernel
theorem dX3_copyDown_108 : decode cX3_copyDown 108 = .ok (.iadd, 1) := by decide +kernel
theorem dX3_copyDown_109 : decode cX3_copyDown 109 = .ok (.invokevirtual 127, 3) := by decide +kernel
theorem dX3_copyDown_112 : decode cX3_copyDown 112 = .ok (.invokevirtual 101, 3) := by decide +kernel
theorem dX3_copyDown_115 : decode cX3_copyDown 115 = .ok (.ifCond .ne 5, 3) := by decide +kernel
theorem dX3_copyDown_118 : decode cX3_copyDown 118 = .ok (.iconst 0, 1) := by decide +kernel
theorem dX3_copyDown_119 : decode cX3_copyDown 119 = .ok (.ireturn, 1) := by decide +kernel
theorem dX3_copyDown_120 : decode cX3_copyDown 120 = .ok (.iinc 5 (-1), 3) := by decide +kernel
theorem dX3_copyDown_123 : decode cX3_copyDown 123 = .ok (.iinc 6 1, 3) := by decide +kernel
theorem dX3_copyDown_126 : decode cX3_copyDown 126 = .ok (.goto (-65), 3) := by decide +kernel
theorem dX3_copyDown_129 : decode cX3_copyDown 129 = .ok (.iconst 1, 1) := by decide +kernel
theorem dX3_copyDown_130 : decode cX3_copyDown 130 = .ok (.ireturn, 1) := by decide +kernel
theorem dX4_init_0 : decode cX4_init 0 = .ok (.aload_n 0, 1) := by decide +kernel
theorem dX4_init_1 : decode cX4_init 1 = .ok (.invokespecial 1, 3) := by decide +kernel
theorem dX4_init_4 : decode cX4_init 4 = .ok (.aload_n 0, 1) := by decide +kernel
theorem dX4_init_5 : decode cX4_init 5 = .ok (.iconst 1, 1) := by decide +kernel
theorem dX4_init_6 : decode cX4_init 6 = .ok (.putfield 7, 3) := by decide +kernel
theorem dX4_init_9 : decode cX4_init 9 = .ok (.aload_n 0, 1) := by decide +kernel
theorem dX4_init_10 : decode cX4_init 10 = .ok (.iconst (-1), 1) := by decide +kernel
theorem dX4_init_11 : decode cX4_init 11 = .ok (.putfield 13, 3) := by decide +kernel
theorem dX4_init_14 : decode cX4_init 14 = .ok (.aload_n 0, 1) := by decide +kernel
theorem dX4_init_15 : decode cX4_init 15 = .ok (.bipush 48, 2) := by decide +kernel
theorem dX4_init_17 : decode cX4_init 17 = .ok (.newarray .int, 2) := by decide +kernel
theorem dX4_init_19 : decode cX4_init 19 = .ok (.putfield 17, 3) := by decide +kernel
theorem dX4_init_22 : decode cX4_init 22 = .ok (.aload_n 0, 1) := by decide +kernel
theorem dX4_init_23 : decode cX4_init 23 = .ok (.bipush 48, 2) := by decide +kernel
theorem dX4_init_25 : decode cX4_init 25 = .ok (.newarray .int, 2) := by decide +kernel
theorem dX4_init_27 : decode cX4_init 27 = .ok (.putfield 21, 3) := by decide +kernel
theorem dX4_init_30 : decode cX4_init 30 = .ok (.aload_n 0, 1) := by decide +kernel
theorem dX4_init_31 : decode cX4_init 31 = .ok (.bipush 48, 2) := by decide +kernel
theorem dX4_init_33 : decode cX4_init 33 = .ok (.newarray .int, 2) := by decide +kernel
theorem dX4_init_35 : decode cX4_init 35 = .ok (.putfield 24, 3) := by decide +kernel
theorem dX4_init_38 : decode cX4_init 38 = .ok (.aload_n 0, 1) := by decide +kernel
theorem dX4_init_39 : decode cX4_init 39 = .ok (.bipush 17, 2) := by decide +kernel
theorem dX4_init_41 : decode cX4_init 41 = .ok (.newarray .int, 2) := by decide +kernel
theorem dX4_init_43 : decode cX4_init 43 = .ok (.putfield 27, 3) := by decide +kernel
theorem dX4_init_46 : decode cX4_init 46 = .ok (.aload_n 0, 1) := by decide +kernel
theorem dX4_init_47 : decode cX4_init 47 = .ok (.bipush 17, 2) := by decide +kernel
theorem dX4_init_49 : decode cX4_init 49 = .ok (.newarray .int, 2) := by decide +kernel
theorem dX4_init_51 : decode cX4_init 51 = .ok (.putfield 30, 3) := by decide +kernel
theorem dX4_init_54 : decode cX4_init 54 = .ok (.aload_n 0, 1) := by decide +kernel
theorem dX4_init_55 : decode cX4_init 55 = .ok (.bipush 17, 2) := by decide +kernel
theorem dX4_init_57 : decode cX4_init 57 = .ok (.newarray .int, 2) := by decide +kernel
theorem dX4_init_59 : decode cX4_init 59 = .ok (.putfield 33, 3) := by decide +kernel
theorem dX4_init_62 : decode cX4_init 62 = .ok (.return_, 1) := by decide +kernel
theorem dX4_thrown_0 : decode cX4_thrown 0 = .ok (.aload_n 0, 1) := by decide +kernel
theorem dX4_thrown_1 : decode cX4_thrown 1 = .ok (.getfield 36, 3) := by decide +kernel
theorem dX4_thrown_4 : decode cX4_thrown 4 = .ok (.ireturn, 1) := by decide +kernel
theorem dX4_write_0 : decode cX4_write 0 = .ok (.aload_n 0, 1) := by decide +kernel
theorem dX4_write_1 : decode cX4_write 1 = .ok (.getfield 13, 3) := by decide +kernel
theorem dX4_write_4 : decode cX4_write 4 = .ok (.ifCond .ne 10, 3) := by decide +kernel
theorem dX4_write_7 : decode cX4_write 7 = .ok (.aload_n 0, 1) := by decide +kernel
theorem dX4_write_8 : decode cX4_write 8 = .ok (.iconst 0, 1) := by decide +kernel
theorem dX4_write_9 : decode cX4_write 9 = .ok (.putfield 7, 3) := by decide +kernel
theorem dX4_write_12 : decode cX4_write 12 = .ok (.iconst 0, 1) := by decide +kernel
theorem dX4_write_13 : decode cX4_write 13 = .ok (.ireturn, 1) := by decide +kernel
theorem dX4_write_14 : decode cX4_write 14 = .ok (.aload_n 0, 1) := by decide +kernel
theorem dX4_write_15 : decode cX4_write 15 = .ok (.aload_n 0, 1) := by decide +kernel
theorem dX4_write_16 : decode cX4_write 16 = .ok (.getfield 13, 3) := by decide +kernel
theorem dX4_write_19 : decode cX4_write 19 = .ok (.ifCond .le 12, 3) := by decide +kernel
theorem dX4_write_22 : decode cX4_write 22 = .ok (.aload_n 0, 1) := by decide +kernel
theorem dX4_write_23 : decode cX4_write 23 = .ok (.getfield 13, 3) := by decide +kernel
theorem dX4_write_26 : decode cX4_write 26 = .ok (.iconst 1, 1) := by decide +kernel
theorem dX4_write_27 : decode cX4_write 27 = .ok (.isub, 1) := by decide +kernel
theorem dX4_write_28 : decode cX4_write 28 = .ok (.goto 7, 3) := by decide +kernel
theorem dX4_write_31 : decode cX4_write 31 = .ok (.aload_n 0, 1) := by decide +kernel
theorem dX4_write_32 : decode cX4_write 32 = .ok (.getfield 13, 3) := by decide +kernel
theorem dX4_write_35 : decode cX4_write 35 = .ok (.putfield 13, 3) := by decide +kernel
theorem dX4_write_38 : decode cX4_write 38 = .ok (.aload_n 0, 1) := by decide +kernel
theorem dX4_write_39 : decode cX4_write 39 = .ok (.dup, 1) := by decide +kernel
theorem dX4_write_40 : decode cX4_write 40 = .ok (.getfield 39, 3) := by decide +kernel
theorem dX4_write_43 : decode cX4_write 43 = .ok (.iconst 1, 1) := by decide +kernel
theorem dX4_write_44 : decode cX4_write 44 = .ok (.iadd, 1) := by decide +kernel
theorem dX4_write_45 : decode cX4_write 45 = .ok (.putfield 39, 3) := by decide +kernel
theorem dX4_write_48 : decode cX4_write 48 = .ok (.aload_n 0, 1) := by decide +kernel
theorem dX4_write_49 : decode cX4_write 49 = .ok (.aload_n 0, 1) := by decide +kernel
theorem dX4_write_50 : decode cX4_write 50 = .ok (.getfield 42, 3) := by decide +kernel
theorem dX4_write_53 : decode cX4_write 53 = .ok (.ifCond .ne 10, 3) := by decide +kernel
theorem dX4_write_56 : decode cX4_write 56 = .ok (.aload_n 0, 1) := by decide +kernel
theorem dX4_write_57 : decode cX4_write 57 = .ok (.getfield 45, 3) := by decide +kernel
theorem dX4_write_60 : decode cX4_write 60 = .ok (.ifCond .eq 7, 3) := by decide +kernel
theorem dX4_write_63 : decode cX4_write 63 = .ok (.iconst 1, 1) := by decide +kernel
theorem dX4_write_64 : decode cX4_write 64 = .ok (.goto 4, 3) := by decide +kernel
theorem dX4_write_67 : decode cX4_write 67 = .ok (.iconst 0, 1) := by decide +kernel
theorem dX4_write_68 : decode cX4_write 68 = .ok (.putfield 42, 3) := by decide +kernel
theorem dX4_write_71 : decode cX4_write 71 = .ok (.iconst 1, 1) := by decide +kernel
theorem dX4_write_72 : decode cX4_write 72 = .ok (.ireturn, 1) := by decide +kernel
theorem dX4_runs_0 : decode cX4_runs 0 = .ok (.iconst 0, 1) := by decide +kernel
theorem dX4_runs_1 : decode cX4_runs 1 = .ok (.istore_n 1, 1) := by decide +kernel
theorem dX4_runs_2 : decode cX4_runs 2 = .ok (.iconst 0, 1) := by decide +kernel
theorem dX4_runs_3 : decode cX4_runs 3 = .ok (.istore_n 2, 1) := by decide +kernel
theorem dX4_runs_4 : decode cX4_runs 4 = .ok (.iload_n 2, 1) := by decide +kernel
theorem dX4_runs_5 : decode cX4_runs 5 = .ok (.bipush 48, 2) := by decide +kernel
theorem dX4_runs_7 : decode cX4_runs 7 = .ok (.if_icmp .ge 38, 3) := by decide +kernel
theorem dX4_runs_10 : decode cX4_runs 10 = .ok (.iload_n 1, 1) := by decide +kernel
theorem dX4_runs_11 : decode cX4_runs 11 = .ok (.iload_n 2, 1) := by decide +kernel
theorem dX4_runs_12 : decode cX4_runs 12 = .ok (.ifCond .eq 20, 3) := by decide +kernel
theorem dX4_runs_15 : decode cX4_runs 15 = .ok (.aload_n 0, 1) := by decide +kernel
theorem dX4_runs_16 : decode cX4_runs 16 = .ok (.getfield 24, 3) := by decide +kernel
theorem dX4_runs_19 : decode cX4_runs 19 = .ok (.iload_n 2, 1) := by decide +kernel
theorem dX4_runs_20 : decode cX4_runs 20 = .ok (.iaload, 1) := by decide +kernel
theorem dX4_runs_21 : decode cX4_runs 21 = .ok (.aload_n 0, 1) := by decide +kernel
theorem dX4_runs_22 : decode cX4_runs 22 = .ok (.getfield 24, 3) := by decide +kernel
theorem dX4_runs_25 : decode cX4_runs 25 = .ok (.iload_n 2, 1) := by decide +kernel
theorem dX4_runs_26 : decode cX4_runs 26 = .ok (.iconst 1, 1) := by decide +kernel
theorem dX4_runs_27 : decode cX4_runs 27 = .ok (.isub, 1) := by decide +kernel
theorem dX4_runs_28 : decode cX4_runs 28 = .ok (.iaload, 1) := by decide +kernel
theorem dX4_runs_29 : decode cX4_runs 29 = .ok (.if_icmp .eq 7, 3) := by decide +kernel
theorem dX4_runs_32 : decode cX4_runs 32 = .ok (.iconst 1, 1) := by decide +kernel
theorem dX4_runs_33 : decode cX4_runs 33 = .ok (.goto 4, 3) := by decide +kernel
theorem dX4_runs_36 : decode cX4_runs 36 = .ok (.iconst 0, 1) := by decide +kernel
theorem dX4_runs_37 : decode cX4_runs 37 = .ok (.iadd, 1) := by decide +kernel
theorem dX4_runs_38 : decode cX4_runs 38 = .ok (.istore_n 1, 1) := by decide +kernel
theorem dX4_runs_39 : decode cX4_runs 39 = .ok (.iinc 2 1, 3) := by decide +kernel
theorem dX4_runs_42 : decode cX4_runs 42 = .ok (.goto (-38), 3) := by decide +kernel
theorem dX4_runs_45 : decode cX4_runs 45 = .ok (.iload_n 1, 1) := by decide +kernel
theorem dX4_runs_46 : decode cX4_runs 46 = .ok (.ireturn, 1) := by decide +kernel
theorem dX4_runsNow_0 : decode cX4_runsNow 0 = .ok (.iconst 0, 1) := by decide +kernel
theorem dX4_runsNow_1 : decode cX4_runsNow 1 = .ok (.istore_n 1, 1) := by decide +kernel
theorem dX4_runsNow_2 : decode cX4_runsNow 2 = .ok (.iconst 0, 1) := by decide +kernel
theorem dX4_runsNow_3 : decode cX4_runsNow 3 = .ok (.istore_n 2, 1) := by decide +kernel
theorem dX4_runsNow_4 : decode cX4_runsNow 4 = .ok (.iload_n 2, 1) := by decide +kernel
theorem dX4_runsNow_5 : decode cX4_runsNow 5 = .ok (.bipush 48, 2) := by decide +kernel
theorem dX4_runsNow_7 : decode cX4_runsNow 7 = .ok (.if_icmp .ge 38, 3) := by decide +kernel
theorem dX4_runsNow_10 : decode cX4_runsNow 10 = .ok (.iload_n 1, 1) := by decide +kernel
theorem dX4_runsNow_11 : decode cX4_runsNow 11 = .ok (.iload_n 2, 1) := by decide +kernel
theorem dX4_runsNow_12 : decode cX4_runsNow 12 = .ok (.ifCond .eq 20, 3) := by decide +kernel
theorem dX4_runsNow_15 : decode cX4_runsNow 15 = .ok (.aload_n 0, 1) := by decide +kernel
theorem dX4_runsNow_16 : decode cX4_runsNow 16 = .ok (.getfield 21, 3) := by decide +kernel
theorem dX4_runsNow_19 : decode cX4_runsNow 19 = .ok (.iload_n 2, 1) := by decide +kernel
theorem dX4_runsNow_20 : decode cX4_runsNow 20 = .ok (.iaload, 1) := by decide +kernel
theorem dX4_runsNow_21 : decode cX4_runsNow 21 = .ok (.aload_n 0, 1) := by decide +kernel
theorem dX4_runsNow_22 : decode cX4_runsNow 22 = .ok (.getfield 21, 3) := by decide +kernel
theorem dX4_runsNow_25 : decode cX4_runsNow 25 = .ok (.iload_n 2, 1) := by decide +kernel
theorem dX4_runsNow_26 : decode cX4_runsNow 26 = .ok (.iconst 1, 1) := by decide +kernel
theorem dX4_runsNow_27 : decode cX4_runsNow 27 = .ok (.isub, 1) := by decide +kernel
theorem dX4_runsNow_28 : decode cX4_runsNow 28 = .ok (.iaload, 1) := by decide +kernel
theorem dX4_runsNow_29 : decode cX4_runsNow 29 = .ok (.if_icmp .eq 7, 3) := by decide +kernel
theorem dX4_runsNow_32 : decode cX4_runsNow 32 = .ok (.iconst 1, 1) := by decide +kernel
theorem dX4_runsNow_33 : decode cX4_runsNow 33 = .ok (.goto 4, 3) := by decide +kernel
theorem dX4_runsNow_36 : decode cX4_runsNow 36 = .ok (.iconst 0, 1) := by decide +kernel
theorem dX4_runsNow_37 : decode cX4_runsNow 37 = .ok (.iadd, 1) := by decide +kernel
theorem dX4_runsNow_38 : decode cX4_runsNow 38 = .ok (.istore_n 1, 1) := by decide +kernel
theorem dX4_runsNow_39 : decode cX4_runsNow 39 = .ok (.iinc 2 1, 3) := by decide +kernel
theorem dX4_runsNow_42 : decode cX4_runsNow 42 = .ok (.goto (-38), 3) := by decide +kernel
theorem dX4_runsNow_45 : decode cX4_runsNow 45 = .ok (.iload_n 1, 1) := by decide +kernel
theorem dX4_runsNow_46 : decode cX4_runsNow 46 = .ok (.ireturn, 1) := by decide +kernel
set_option maxRecDepth 20000 in
theorem ggX4_change_X4_runs : GoodIn wsX4_change wsX4_runs := goodIn_r _ [7, 2, 17, 18, 19, 20, 21, 22, 23, 24, 25, 26, 27, 28, 29, 30, 31, 32, 33, 34, 35, 36] (by decide +kernel) (by decide +kernel)
set_option maxRecDepth 20000 in
theorem gX4_change_X4_runs : GoodIn wsX4_change (wsV RX4 48 RX4 yX4_runs wsX4_runs) := goodIn_app (goodIn_of _ (by decide +kernel)) ggX4_change_X4_runs
set_option maxRecDepth 20000 in
theorem ggX4_change_X4_write : GoodIn wsX4_change wsX4_write := goodIn_r _ [11, 12, 13, 14, 15, 16, 17, 18, 19, 20, 21, 22, 23, 24, 25, 26, 27, 28, 29, 30, 31, 32, 33, 34, 35, 36] (by decide +kernel) (by decide +kernel)
set_option maxRecDepth 20000 in
theorem gX4_change_X4_write : GoodIn wsX4_change (wsV RX4 52 RX4 yX4_write wsX4_write) := goodIn_app (goodIn_of _ (by decide +kernel)) ggX4_change_X4_write
theorem dX4_change_0 : decode cX4_change 0 = .ok (.aload_n 0, 1) := by decide +kernel
theorem dX4_change_1 : decode cX4_change 1 = .ok (.invokevirtual 48, 3) := by decide +kernel
theorem dX4_change_4 : decode cX4_change 4 = .ok (.istore_n 1, 1) := by decide +kernel
theorem dX4_change_5 : decode cX4_change 5 = .ok (.iconst 0, 1) := by decide +kernel
theorem dX4_change_6 : decode cX4_change 6 = .ok (.istore_n 2, 1) := by decide +kernel
theorem dX4_change_7 : decode cX4_change 7 = .ok (.iload_n 2, 1) := by decide +kernel
theorem dX4_change_8 : decode cX4_change 8 = .ok (.iload_n 1, 1) := by decide +kernel
theorem dX4_change_9 : decode cX4_change 9 = .ok (.iconst 3, 1) := by decide +kernel
theorem dX4_change_10 : decode cX4_change 10 = .ok (.iadd, 1) := by decide +kernel
theorem dX4_change_11 : decode cX4_change 11 = .ok (.iconst 4, 1) := by decide +kernel
theorem dX4_change_12 : decode cX4_change 12 = .ok (.idiv, 1) := by decide +kernel
theorem dX4_change_13 : decode cX4_change 13 = .ok (.iconst 1, 1) := by decide +kernel
theorem dX4_change_14 : decode cX4_change 14 = .ok (.iadd, 1) := by decide +kernel
theorem dX4_change_15 : decode cX4_change 15 = .ok (.if_icmp .ge 18, 3) := by decide +kernel
theorem dX4_change_18 : decode cX4_change 18 = .ok (.aload_n 0, 1) := by decide +kernel
theorem dX4_change_19 : decode cX4_change 19 = .ok (.invokevirtual 52, 3) := by decide +kernel
theorem dX4_change_22 : decode cX4_change 22 = .ok (.ifCond .ne 5, 3) := by decide +kernel
theorem dX4_change_25 : decode cX4_change 25 = .ok (.iconst 0, 1) := by decide +kernel
theorem dX4_change_26 : decode cX4_change 26 = .ok (.ireturn, 1) := by decide +kernel
theorem dX4_change_27 : decode cX4_change 27 = .ok (.iinc 2 1, 3) := by decide +kernel
theorem dX4_change_30 : decode cX4_change 30 = .ok (.goto (-23), 3) := by decide +kernel
theorem dX4_change_33 : decode cX4_change 33 = .ok (.iconst 0, 1) := by decide +kernel
theorem dX4_change_34 : decode cX4_change 34 = .ok (.istore_n 2, 1) := by decide +kernel
theorem dX4_change_35 : decode cX4_change 35 = .ok (.iload_n 2, 1) := by decide +kernel
theorem dX4_change_36 : decode cX4_change 36 = .ok (.bipush 48, 2) := by decide +kernel
theorem dX4_change_38 : decode cX4_change 38 = .ok (.if_icmp .ge 21, 3) := by decide +kernel
theorem dX4_change_41 : decode cX4_change 41 = .ok (.aload_n 0, 1) := by decide +kernel
theorem dX4_change_42 : decode cX4_change 42 = .ok (.getfield 21, 3) := by decide +kernel
theorem dX4_change_45 : decode cX4_change 45 = .ok (.iload_n 2, 1) := by decide +kernel
theorem dX4_change_46 : decode cX4_change 46 = .ok (.aload_n 0, 1) := by decide +kernel
theorem dX4_change_47 : decode cX4_change 47 = .ok (.getfield 24, 3) := by decide +kernel
theorem dX4_change_50 : decode cX4_change 50 = .ok (.iload_n 2, 1) := by decide +kernel
theorem dX4_change_51 : decode cX4_change 51 = .ok (.iaload, 1) := by decide +kernel
theorem dX4_change_52 : decode cX4_change 52 = .ok (.iastore, 1) := by decide +kernel
theorem dX4_change_53 : decode cX4_change 53 = .ok (.iinc 2 1, 3) := by decide +kernel
theorem dX4_change_56 : decode cX4_change 56 = .ok (.goto (-21), 3) := by decide +kernel
theorem dX4_change_59 : decode cX4_change 59 = .ok (.iconst 1, 1) := by decide +kernel
theorem dX4_change_60 : decode cX4_change 60 = .ok (.ireturn, 1) := by decide +kernel
theorem dX4_lay_0 : decode cX4_lay 0 = .ok (.iconst 0, 1) := by decide +kernel
theorem dX4_lay_1 : decode cX4_lay 1 = .ok (.istore_n 1, 1) := by decide +kernel
theorem dX4_lay_2 : decode cX4_lay 2 = .ok (.iload_n 1, 1) := by decide +kernel
theorem dX4_lay_3 : decode cX4_lay 3 = .ok (.bipush 48, 2) := by decide +kernel
theorem dX4_lay_5 : decode cX4_lay 5 = .ok (.if_icmp .ge 21, 3) := by decide +kernel
theorem dX4_lay_8 : decode cX4_lay 8 = .ok (.aload_n 0, 1) := by decide +kernel
theorem dX4_lay_9 : decode cX4_lay 9 = .ok (.getfield 24, 3) := by decide +kernel
theorem dX4_lay_12 : decode cX4_lay 12 = .ok (.iload_n 1, 1) := by decide +kernel
theorem dX4_lay_13 : decode cX4_lay 13 = .ok (.aload_n 0, 1) := by decide +kernel
theorem dX4_lay_14 : decode cX4_lay 14 = .ok (.getfield 21, 3) := by decide +kernel
theorem dX4_lay_17 : decode cX4_lay 17 = .ok (.iload_n 1, 1) := by decide +kernel
theorem dX4_lay_18 : decode cX4_lay 18 = .ok (.iaload, 1) := by decide +kernel
theorem dX4_lay_19 : decode cX4_lay 19 = .ok (.iastore, 1) := by decide +kernel
theorem dX4_lay_20 : decode cX4_lay 20 = .ok (.iinc 1 1, 3) := by decide +kernel
theorem dX4_lay_23 : decode cX4_lay 23 = .ok (.goto (-21), 3) := by decide +kernel
theorem dX4_lay_26 : decode cX4_lay 26 = .ok (.return_, 1) := by decide +kernel
theorem dX4_giveUp_0 : decode cX4_giveUp 0 = .ok (.iconst 0, 1) := by decide +kernel
theorem dX4_giveUp_1 : decode cX4_giveUp 1 = .ok (.istore_n 3, 1) := by decide +kernel
theorem dX4_giveUp_2 : decode cX4_giveUp 2 = .ok (.iconst 0, 1) := by decide +kernel
theorem dX4_giveUp_3 : decode cX4_giveUp 3 = .ok (.istore 4, 2) := by decide +kernel
theorem dX4_giveUp_5 : decode cX4_giveUp 5 = .ok (.iload 4, 2) := by decide +kernel
theorem dX4_giveUp_7 : decode cX4_giveUp 7 = .ok (.bipush 48, 2) := by decide +kernel
theorem dX4_giveUp_9 : decode cX4_giveUp 9 = .ok (.if_icmp .ge 68, 3) := by decide +kernel
theorem dX4_giveUp_12 : decode cX4_giveUp 12 = .ok (.aload_n 0, 1) := by decide +kernel
theorem dX4_giveUp_13 : decode cX4_giveUp 13 = .ok (.getfield 21, 3) := by decide +kernel
theorem dX4_giveUp_16 : decode cX4_giveUp 16 = .ok (.iload 4, 2) := by decide +kernel
theorem dX4_giveUp_18 : decode cX4_giveUp 18 = .ok (.iaload, 1) := by decide +kernel
theorem dX4_giveUp_19 : decode cX4_giveUp 19 = .ok (.iload_n 1, 1) := by decide +kernel
theorem dX4_giveUp_20 : decode cX4_giveUp 20 = .ok (.if_icmp .ne 7, 3) := by decide +kernel
theorem dX4_giveUp_23 : decode cX4_giveUp 23 = .ok (.iconst 1, 1) := by decide +kernel
theorem dX4_giveUp_24 : decode cX4_giveUp 24 = .ok (.goto 4, 3) := by decide +kernel
theorem dX4_giveUp_27 : decode cX4_giveUp 27 = .ok (.iconst 0, 1) := by decide +kernel
theorem dX4_giveUp_28 : decode cX4_giveUp 28 = .ok (.istore 5, 2) := by decide +kernel
theorem dX4_giveUp_30 : decode cX4_giveUp 30 = .ok (.aload_n 0, 1) := by decide +kernel
theorem dX4_giveUp_31 : decode cX4_giveUp 31 = .ok (.getfield 24, 3) := by decide +kernel
theorem dX4_giveUp_34 : decode cX4_giveUp 34 = .ok (.iload 4, 2) := by decide +kernel
theorem dX4_giveUp_36 : decode cX4_giveUp 36 = .ok (.iload 5, 2) := by decide +kernel
theorem dX4_giveUp_38 : decode cX4_giveUp 38 = .ok (.ifCond .eq 12, 3) := by decide +kernel
theorem dX4_giveUp_41 : decode cX4_giveUp 41 = .ok (.iload_n 3, 1) := by decide +kernel
theorem dX4_giveUp_42 : decode cX4_giveUp 42 = .ok (.iload_n 2, 1) := by decide +kernel
theorem dX4_giveUp_43 : decode cX4_giveUp 43 = .ok (.if_icmp .lt 7, 3) := by decide +kernel
theorem dX4_giveUp_46 : decode cX4_giveUp 46 = .ok (.iconst 0, 1) := by decide +kernel
theorem dX4_giveUp_47 : decode cX4_giveUp 47 = .ok (.goto 10, 3) := by decide +kernel
theorem dX4_giveUp_50 : decode cX4_giveUp 50 = .ok (.aload_n 0, 1) := by decide +kernel
theorem dX4_giveUp_51 : decode cX4_giveUp 51 = .ok (.getfield 24, 3) := by decide +kernel
theorem dX4_giveUp_54 : decode cX4_giveUp 54 = .ok (.iload 4, 2) := by decide +kernel
theorem dX4_giveUp_56 : decode cX4_giveUp 56 = .ok (.iaload, 1) := by decide +kernel
theorem dX4_giveUp_57 : decode cX4_giveUp 57 = .ok (.iastore, 1) := by decide +kernel
theorem dX4_giveUp_58 : decode cX4_giveUp 58 = .ok (.iload_n 3, 1) := by decide +kernel
theorem dX4_giveUp_59 : decode cX4_giveUp 59 = .ok (.iload 5, 2) := by decide +kernel
theorem dX4_giveUp_61 : decode cX4_giveUp 61 = .ok (.ifCond .eq 7, 3) := by decide +kernel
theorem dX4_giveUp_64 : decode cX4_giveUp 64 = .ok (.iconst 1, 1) := by decide +kernel
theorem dX4_giveUp_65 : decode cX4_giveUp 65 = .ok (.goto 4, 3) := by decide +kernel
theorem dX4_giveUp_68 : decode cX4_giveUp 68 = .ok (.iconst 0, 1) := by decide +kernel
theorem dX4_giveUp_69 : decode cX4_giveUp 69 = .ok (.iadd, 1) := by decide +kernel
theorem dX4_giveUp_70 : decode cX4_giveUp 70 = .ok (.istore_n 3, 1) := by decide +kernel
theorem dX4_giveUp_71 : decode cX4_giveUp 71 = .ok (.iinc 4 1, 3) := by decide +kernel
theorem dX4_giveUp_74 : decode cX4_giveUp 74 = .ok (.goto (-69), 3) := by decide +kernel
theorem dX4_giveUp_77 : decode cX4_giveUp 77 = .ok (.return_, 1) := by decide +kernel
theorem dX4_lengthOf_0 : decode cX4_lengthOf 0 = .ok (.iconst 0, 1) := by decide +kernel
theorem dX4_lengthOf_1 : decode cX4_lengthOf 1 = .ok (.istore_n 2, 1) := by decide +kernel
theorem dX4_lengthOf_2 : decode cX4_lengthOf 2 = .ok (.iconst 0, 1) := by decide +kernel
theorem dX4_lengthOf_3 : decode cX4_lengthOf 3 = .ok (.istore_n 3, 1) := by decide +kernel
theorem dX4_lengthOf_4 : decode cX4_lengthOf 4 = .ok (.iload_n 3, 1) := by decide +kernel
theorem dX4_lengthOf_5 : decode cX4_lengthOf 5 = .ok (.bipush 48, 2) := by decide +kernel
theorem dX4_lengthOf_7 : decode cX4_lengthOf 7 = .ok (.if_icmp .ge 27, 3) := by decide +kernel
theorem dX4_lengthOf_10 : decode cX4_lengthOf 10 = .ok (.iload_n 2, 1) := by decide +kernel
theorem dX4_lengthOf_11 : decode cX4_lengthOf 11 = .ok (.aload_n 0, 1) := by decide +kernel
theorem dX4_lengthOf_12 : decode cX4_lengthOf 12 = .ok (.getfield 21, 3) := by decide +kernel
theorem dX4_lengthOf_15 : decode cX4_lengthOf 15 = .ok (.iload_n 3, 1) := by decide +kernel
theorem dX4_lengthOf_16 : decode cX4_lengthOf 16 = .ok (.iaload, 1) := by decide +kernel
theorem dX4_lengthOf_17 : decode cX4_lengthOf 17 = .ok (.iload_n 1, 1) := by decide +kernel
theorem dX4_lengthOf_18 : decode cX4_lengthOf 18 = .ok (.if_icmp .ne 7, 3) := by decide +kernel
theorem dX4_lengthOf_21 : decode cX4_lengthOf 21 = .ok (.iconst 1, 1) := by decide +kernel
theorem dX4_lengthOf_22 : decode cX4_lengthOf 22 = .ok (.goto 4, 3) := by decide +kernel
theorem dX4_lengthOf_25 : decode cX4_lengthOf 25 = .ok (.iconst 0, 1) := by decide +kernel
theorem dX4_lengthOf_26 : decode cX4_lengthOf 26 = .ok (.iadd, 1) := by decide +kernel
theorem dX4_lengthOf_27 : decode cX4_lengthOf 27 = .ok (.istore_n 2, 1) := by decide +kernel
theorem dX4_lengthOf_28 : decode cX4_lengthOf 28 = .ok (.iinc 3 1, 3) := by decide +kernel
theorem dX4_lengthOf_31 : decode cX4_lengthOf 31 = .ok (.goto (-27), 3) := by decide +kernel
theorem dX4_lengthOf_34 : decode cX4_lengthOf 34 = .ok (.iload_n 2, 1) := by decide +kernel
theorem dX4_lengthOf_35 : decode cX4_lengthOf 35 = .ok (.ireturn, 1) := by decide +kernel
theorem dX4_beginOf_0 : decode cX4_beginOf 0 = .ok (.iconst (-1), 1) := by decide +kernel
theorem dX4_beginOf_1 : decode cX4_beginOf 1 = .ok (.istore_n 2, 1) := by decide +kernel
theorem dX4_beginOf_2 : decode cX4_beginOf 2 = .ok (.bipush 47, 2) := by decide +kernel
theorem dX4_beginOf_4 : decode cX4_beginOf 4 = .ok (.istore_n 3, 1) := by decide +kernel
theorem dX4_beginOf_5 : decode cX4_beginOf 5 = .ok (.iload_n 3, 1) := by decide +kernel
theorem dX4_beginOf_6 : decode cX4_beginOf 6 = .ok (.ifCond .lt 25, 3) := by decide +kernel
theorem dX4_beginOf_9 : decode cX4_beginOf 9 = .ok (.aload_n 0, 1) := by decide +kernel
theorem dX4_beginOf_10 : decode cX4_beginOf 10 = .ok (.getfield 21, 3) := by decide +kernel
theorem dX4_beginOf_13 : decode cX4_beginOf 13 = .ok (.iload_n 3, 1) := by decide +kernel
theorem dX4_beginOf_14 : decode cX4_beginOf 14 = .ok (.iaload, 1) := by decide +kernel
theorem dX4_beginOf_15 : decode cX4_beginOf 15 = .ok (.iload_n 1, 1) := by decide +kernel
theorem dX4_beginOf_16 : decode cX4_beginOf 16 = .ok (.if_icmp .ne 7, 3) := by decide +kernel
theorem dX4_beginOf_19 : decode cX4_beginOf 19 = .ok (.iload_n 3, 1) := by decide +kernel
theorem dX4_beginOf_20 : decode cX4_beginOf 20 = .ok (.goto 4, 3) := by decide +kernel
theorem dX4_beginOf_23 : decode cX4_beginOf 23 = .ok (.iload_n 2, 1) := by decide +kernel
theorem dX4_beginOf_24 : decode cX4_beginOf 24 = .ok (.istore_n 2, 1) := by decide +kernel
theorem dX4_beginOf_25 : decode cX4_beginOf 25 = .ok (.iinc 3 (-1), 3) := by decide +kernel
theorem dX4_beginOf_28 : decode cX4_beginOf 28 = .ok (.goto (-23), 3) := by decide +kernel
theorem dX4_beginOf_31 : decode cX4_beginOf 31 = .ok (.iload_n 2, 1) := by decide +kernel
theorem dX4_beginOf_32 : decode cX4_beginOf 32 = .ok (.ireturn, 1) := by decide +kernel
theorem dX4_permanent_0 : decode cX4_permanent 0 = .ok (.iconst 0, 1) := by decide +kernel
theorem dX4_permanent_1 : decode cX4_permanent 1 = .ok (.istore_n 2, 1) := by decide +kernel
theorem dX4_permanent_2 : decode cX4_permanent 2 = .ok (.iconst 1, 1) := by decide +kernel
theorem dX4_permanent_3 : decode cX4_permanent 3 = .ok (.istore_n 3, 1) := by decide +kernel
theorem dX4_permanent_4 : decode cX4_permanent 4 = .ok (.iload_n 3, 1) := by decide +kernel
theorem dX4_permanent_5 : decode cX4_permanent 5 = .ok (.bipush 17, 2) := by decide +kernel
theorem dX4_permanent_7 : decode cX4_permanent 7 = .ok (.if_icmp .ge 35, 3) := by decide +kernel
theorem dX4_permanent_10 : decode cX4_permanent 10 = .ok (.aload_n 0, 1) := by decide +kernel
theorem dX4_permanent_11 : decode cX4_permanent 11 = .ok (.getfield 27, 3) := by decide +kernel
theorem dX4_permanent_14 : decode cX4_permanent 14 = .ok (.iload_n 3, 1) := by decide +kernel
theorem dX4_permanent_15 : decode cX4_permanent 15 = .ok (.iaload, 1) := by decide +kernel
theorem dX4_permanent_16 : decode cX4_permanent 16 = .ok (.iconst 2, 1) := by decide +kernel
theorem dX4_permanent_17 : decode cX4_permanent 17 = .ok (.if_icmp .ne 17, 3) := by decide +kernel
theorem dX4_permanent_20 : decode cX4_permanent 20 = .ok (.aload_n 0, 1) := by decide +kernel
theorem dX4_permanent_21 : decode cX4_permanent 21 = .ok (.getfield 30, 3) := by decide +kernel
theorem dX4_permanent_24 : decode cX4_permanent 24 = .ok (.iload_n 3, 1) := by decide +kernel
theorem dX4_permanent_25 : decode cX4_permanent 25 = .ok (.iaload, 1) := by decide +kernel
theorem dX4_permanent_26 : decode cX4_permanent 26 = .ok (.iload_n 1, 1) := by decide +kernel
theorem dX4_permanent_27 : decode cX4_permanent 27 = .ok (.if_icmp .ne 7, 3) := by decide +kernel
theorem dX4_permanent_30 : decode cX4_permanent 30 = .ok (.iload_n 3, 1) := by decide +kernel
theorem dX4_permanent_31 : decode cX4_permanent 31 = .ok (.goto 4, 3) := by decide +kernel
theorem dX4_permanent_34 : decode cX4_permanent 34 = .ok (.iload_n 2, 1) := by decide +kernel
theorem dX4_permanent_35 : decode cX4_permanent 35 = .ok (.istore_n 2, 1) := by decide +kernel
theorem dX4_permanent_36 : decode cX4_permanent 36 = .ok (.iinc 3 1, 3) := by decide +kernel
theorem dX4_permanent_39 : decode cX4_permanent 39 = .ok (.goto (-35), 3) := by decide +kernel
theorem dX4_permanent_42 : decode cX4_permanent 42 = .ok (.iload_n 2, 1) := by decide +kernel
theorem dX4_permanent_43 : decode cX4_permanent 43 = .ok (.ireturn, 1) := by decide +kernel
theorem dX4_byHandle_0 : decode cX4_byHandle 0 = .ok (.iconst 0, 1) := by decide +kernel
theorem dX4_byHandle_1 : decode cX4_byHandle 1 = .ok (.istore_n 2, 1) := by decide +kernel
theorem dX4_byHandle_2 : decode cX4_byHandle 2 = .ok (.iconst 1, 1) := by decide +kernel
theorem dX4_byHandle_3 : decode cX4_byHandle 3 = .ok (.istore_n 3, 1) := by decide +kernel
theorem dX4_byHandle_4 : decode cX4_byHandle 4 = .ok (.iload_n 3, 1) := by decide +kernel
theorem dX4_byHandle_5 : decode cX4_byHandle 5 = .ok (.bipush 17, 2) := by decide +kernel
theorem dX4_byHandle_7 : decode cX4_byHandle 7 = .ok (.if_icmp .ge 35, 3) := by decide +kernel
theorem dX4_byHandle_10 : decode cX4_byHandle 10 = .ok (.aload_n 0, 1) := by decide +kernel
theorem dX4_byHandle_11 : decode cX4_byHandle 11 = .ok (.getfield 27, 3) := by decide +kernel
theorem dX4_byHandle_14 : decode cX4_byHandle 14 = .ok (.iload_n 3, 1) := by decide +kernel
theorem dX4_byHandle_15 : decode cX4_byHandle 15 = .ok (.iaload, 1) := by decide +kernel
theorem dX4_byHandle_16 : decode cX4_byHandle 16 = .ok (.iconst 1, 1) := by decide +kernel
theorem dX4_byHandle_17 : decode cX4_byHandle 17 = .ok (.if_icmp .ne 17, 3) := by decide +kernel
theorem dX4_byHandle_20 : decode cX4_byHandle 20 = .ok (.aload_n 0, 1) := by decide +kernel
theorem dX4_byHandle_21 : decode cX4_byHandle 21 = .ok (.getfield 33, 3) := by decide +kernel
theorem dX4_byHandle_24 : decode cX4_byHandle 24 = .ok (.iload_n 3, 1) := by decide +kernel
theorem dX4_byHandle_25 : decode cX4_byHandle 25 = .ok (.iaload, 1) := by decide +kernel
theorem dX4_byHandle_26 : decode cX4_byHandle 26 = .ok (.iload_n 1, 1) := by decide +kernel
theorem dX4_byHandle_27 : decode cX4_byHandle 27 = .ok (.if_icmp .ne 7, 3) := by decide +kernel
theorem dX4_byHandle_30 : decode cX4_byHandle 30 = .ok (.iload_n 3, 1) := by decide +kernel
theorem dX4_byHandle_31 : decode cX4_byHandle 31 = .ok (.goto 4, 3) := by decide +kernel
theorem dX4_byHandle_34 : decode cX4_byHandle 34 = .ok (.iload_n 2, 1) := by decide +kernel
theorem dX4_byHandle_35 : decode cX4_byHandle 35 = .ok (.istore_n 2, 1) := by decide +kernel
theorem dX4_byHandle_36 : decode cX4_byHandle 36 = .ok (.iinc 3 1, 3) := by decide +kernel
theorem dX4_byHandle_39 : decode cX4_byHandle 39 = .ok (.goto (-35), 3) := by decide +kernel
theorem dX4_byHandle_42 : decode cX4_byHandle 42 = .ok (.iload_n 2, 1) := by decide +kernel
theorem dX4_byHandle_43 : decode cX4_byHandle 43 = .ok (.ireturn, 1) := by decide +kernel
theorem dX4_howMany_0 : decode cX4_howMany 0 = .ok (.iconst 0, 1) := by decide +kernel
theorem dX4_howMany_1 : decode cX4_howMany 1 = .ok (.istore_n 2, 1) := by decide +kernel
theorem dX4_howMany_2 : decode cX4_howMany 2 = .ok (.iconst 1, 1) := by decide +kernel
theorem dX4_howMany_3 : decode cX4_howMany 3 = .ok (.istore_n 3, 1) := by decide +kernel
theorem dX4_howMany_4 : decode cX4_howMany 4 = .ok (.iload_n 3, 1) := by decide +kernel
theorem dX4_howMany_5 : decode cX4_howMany 5 = .ok (.bipush 17, 2) := by decide +kernel
theorem dX4_howMany_7 : decode cX4_howMany 7 = .ok (.if_icmp .ge 27, 3) := by decide +kernel
theorem dX4_howMany_10 : decode cX4_howMany 10 = .ok (.iload_n 2, 1) := by decide +kernel
theorem dX4_howMany_11 : decode cX4_howMany 11 = .ok (.aload_n 0, 1) := by decide +kernel
theorem dX4_howMany_12 : decode cX4_howMany 12 = .ok (.getfield 27, 3) := by decide +kernel
theorem dX4_howMany_15 : decode cX4_howMany 15 = .ok (.iload_n 3, 1) := by decide +kernel
theorem dX4_howMany_16 : decode cX4_howMany 16 = .ok (.iaload, 1) := by decide +kernel
theorem dX4_howMany_17 : decode cX4_howMany 17 = .ok (.iload_n 1, 1) := by decide +kernel
theorem dX4_howMany_18 : decode cX4_howMany 18 = .ok (.if_icmp .ne 7, 3) := by decide +kernel
theorem dX4_howMany_21 : decode cX4_howMany 21 = .ok (.iconst 1, 1) := by decide +kernel
theorem dX4_howMany_22 : decode cX4_howMany 22 = .ok (.goto 4, 3) := by decide +kernel
theorem dX4_howMany_25 : decode cX4_howMany 25 = .ok (.iconst 0, 1) := by decide +kernel
theorem dX4_howMany_26 : decode cX4_howMany 26 = .ok (.iadd, 1) := by decide +kernel
theorem dX4_howMany_27 : decode cX4_howMany 27 = .ok (.istore_n 2, 1) := by decide +kernel
theorem dX4_howMany_28 : decode cX4_howMany 28 = .ok (.iinc 3 1, 3) := by decide +kernel
theorem dX4_howMany_31 : decode cX4_howMany 31 = .ok (.goto (-27), 3) := by decide +kernel
theorem dX4_howMany_34 : decode cX4_howMany 34 = .ok (.iload_n 2, 1) := by decide +kernel
theorem dX4_howMany_35 : decode cX4_howMany 35 = .ok (.ireturn, 1) := by decide +kernel
theorem dX4_isName_0 : decode cX4_isName 0 = .ok (.iload_n 0, 1) := by decide +kernel
theorem dX4_isName_1 : decode cX4_isName 1 = .ok (.iconst 1, 1) := by decide +kernel
theorem dX4_isName_2 : decode cX4_isName 2 = .ok (.if_icmp .lt 14, 3) := by decide +kernel
theorem dX4_isName_5 : decode cX4_isName 5 = .ok (.iload_n 0, 1) := by decide +kernel
theorem dX4_isName_6 : decode cX4_isName 6 = .ok (.sipush 999, 3) := by decide +kernel
theorem dX4_isName_9 : decode cX4_isName 9 = .ok (.if_icmp .gt 7, 3) := by decide +kernel
theorem dX4_isName_12 : decode cX4_isName 12 = .ok (.iconst 1, 1) := by decide +kernel
theorem dX4_isName_13 : decode cX4_isName 13 = .ok (.goto 4, 3) := by decide +kernel
theorem dX4_isName_16 : decode cX4_isName 16 = .ok (.iconst 0, 1) := by decide +kernel
theorem dX4_isName_17 : decode cX4_isName 17 = .ok (.ireturn, 1) := by decide +kernel
theorem dX4_runFrom_0 : decode cX4_runFrom 0 = .ok (.iconst 1, 1) := by decide +kernel
theorem dX4_runFrom_1 : decode cX4_runFrom 1 = .ok (.istore_n 2, 1) := by decide +kernel
theorem dX4_runFrom_2 : decode cX4_runFrom 2 = .ok (.iload_n 1, 1) := by decide +kernel
theorem dX4_runFrom_3 : decode cX4_runFrom 3 = .ok (.iload_n 2, 1) := by decide +kernel
theorem dX4_runFrom_4 : decode cX4_runFrom 4 = .ok (.iadd, 1) := by decide +kernel
theorem dX4_runFrom_5 : decode cX4_runFrom 5 = .ok (.bipush 48, 2) := by decide +kernel
theorem dX4_runFrom_7 : decode cX4_runFrom 7 = .ok (.if_icmp .ge 26, 3) := by decide +kernel
theorem dX4_runFrom_10 : decode cX4_runFrom 10 = .ok (.aload_n 0, 1) := by decide +kernel
theorem dX4_runFrom_11 : decode cX4_runFrom 11 = .ok (.getfield 21, 3) := by decide +kernel
theorem dX4_runFrom_14 : decode cX4_runFrom 14 = .ok (.iload_n 1, 1) := by decide +kernel
theorem dX4_runFrom_15 : decode cX4_runFrom 15 = .ok (.iload_n 2, 1) := by decide +kernel
theorem dX4_runFrom_16 : decode cX4_runFrom 16 = .ok (.iadd, 1) := by decide +kernel
theorem dX4_runFrom_17 : decode cX4_runFrom 17 = .ok (.iaload, 1) := by decide +kernel
theorem dX4_runFrom_18 : decode cX4_runFrom 18 = .ok (.aload_n 0, 1) := by decide +kernel
theorem dX4_runFrom_19 : decode cX4_runFrom 19 = .ok (.getfield 21, 3) := by decide +kernel
theorem dX4_runFrom_22 : decode cX4_runFrom 22 = .ok (.iload_n 1, 1) := by decide +kernel
theorem dX4_runFrom_23 : decode cX4_runFrom 23 = .ok (.iaload, 1) := by decide +kernel
theorem dX4_runFrom_24 : decode cX4_runFrom 24 = .ok (.if_icmp .ne 9, 3) := by decide +kernel
theorem dX4_runFrom_27 : decode cX4_runFrom 27 = .ok (.iinc 2 1, 3) := by decide +kernel
theorem dX4_runFrom_30 : decode cX4_runFrom 30 = .ok (.goto (-28), 3) := by decide +kernel
theorem dX4_runFrom_33 : decode cX4_runFrom 33 = .ok (.iload_n 2, 1) := by decide +kernel
theorem dX4_runFrom_34 : decode cX4_runFrom 34 = .ok (.ireturn, 1) := by decide +kernel
set_option maxRecDepth 20000 in
theorem ggX4_fit_X4_runFrom : GoodIn wsX4_fit wsX4_runFrom := goodIn_r _ [8, 2, 9, 10, 11, 12, 13, 14, 15, 16, 17, 18, 19, 20, 21, 22, 23, 24, 25, 26, 27, 28] (by decide +kernel) (by decide +kernel)
set_option maxRecDepth 20000 in
theorem gX4_fit_X4_runFrom : GoodIn wsX4_fit (wsV RX4 59 RX4 yX4_runFrom wsX4_runFrom) := goodIn_app (goodIn_of _ (by decide +kernel)) ggX4_fit_X4_runFrom
theorem dX4_fit_0 : decode cX4_fit 0 = .ok (.aload_n 0, 1) := by decide +kernel
theorem dX4_fit_1 : decode cX4_fit 1 = .ok (.bipush 99, 2) := by decide +kernel
theorem dX4_fit_3 : decode cX4_fit 3 = .ok (.putfield 56, 3) := by decide +kernel
theorem dX4_fit_6 : decode cX4_fit 6 = .ok (.iconst 0, 1) := by decide +kernel
theorem dX4_fit_7 : decode cX4_fit 7 = .ok (.istore_n 2, 1) := by decide +kernel
theorem dX4_fit_8 : decode cX4_fit 8 = .ok (.iload_n 2, 1) := by decide +kernel
theorem dX4_fit_9 : decode cX4_fit 9 = .ok (.bipush 48, 2) := by decide +kernel
theorem dX4_fit_11 : decode cX4_fit 11 = .ok (.if_icmp .ge 48, 3) := by decide +kernel
theorem dX4_fit_14 : decode cX4_fit 14 = .ok (.aload_n 0, 1) := by decide +kernel
theorem dX4_fit_15 : decode cX4_fit 15 = .ok (.iload_n 2, 1) := by decide +kernel
theorem dX4_fit_16 : decode cX4_fit 16 = .ok (.invokevirtual 59, 3) := by decide +kernel
theorem dX4_fit_19 : decode cX4_fit 19 = .ok (.istore_n 3, 1) := by decide +kernel
theorem dX4_fit_20 : decode cX4_fit 20 = .ok (.aload_n 0, 1) := by decide +kernel
theorem dX4_fit_21 : decode cX4_fit 21 = .ok (.getfield 21, 3) := by decide +kernel
theorem dX4_fit_24 : decode cX4_fit 24 = .ok (.iload_n 2, 1) := by decide +kernel
theorem dX4_fit_25 : decode cX4_fit 25 = .ok (.iaload, 1) := by decide +kernel
theorem dX4_fit_26 : decode cX4_fit 26 = .ok (.ifCond .ne 26, 3) := by decide +kernel
theorem dX4_fit_29 : decode cX4_fit 29 = .ok (.iload_n 3, 1) := by decide +kernel
theorem dX4_fit_30 : decode cX4_fit 30 = .ok (.iload_n 1, 1) := by decide +kernel
theorem dX4_fit_31 : decode cX4_fit 31 = .ok (.if_icmp .lt 21, 3) := by decide +kernel
theorem dX4_fit_34 : decode cX4_fit 34 = .ok (.iload_n 3, 1) := by decide +kernel
theorem dX4_fit_35 : decode cX4_fit 35 = .ok (.aload_n 0, 1) := by decide +kernel
theorem dX4_fit_36 : decode cX4_fit 36 = .ok (.getfield 56, 3) := by decide +kernel
theorem dX4_fit_39 : decode cX4_fit 39 = .ok (.if_icmp .ge 13, 3) := by decide +kernel
theorem dX4_fit_42 : decode cX4_fit 42 = .ok (.aload_n 0, 1) := by decide +kernel
theorem dX4_fit_43 : decode cX4_fit 43 = .ok (.iload_n 2, 1) := by decide +kernel
theorem dX4_fit_44 : decode cX4_fit 44 = .ok (.putfield 63, 3) := by decide +kernel
theorem dX4_fit_47 : decode cX4_fit 47 = .ok (.aload_n 0, 1) := by decide +kernel
theorem dX4_fit_48 : decode cX4_fit 48 = .ok (.iload_n 3, 1) := by decide +kernel
theorem dX4_fit_49 : decode cX4_fit 49 = .ok (.putfield 56, 3) := by decide +kernel
theorem dX4_fit_52 : decode cX4_fit 52 = .ok (.iload_n 2, 1) := by decide +kernel
theorem dX4_fit_53 : decode cX4_fit 53 = .ok (.iload_n 3, 1) := by decide +kernel
theorem dX4_fit_54 : decode cX4_fit 54 = .ok (.iadd, 1) := by decide +kernel
theorem dX4_fit_55 : decode cX4_fit 55 = .ok (.istore_n 2, 1) := by decide +kernel
theorem dX4_fit_56 : decode cX4_fit 56 = .ok (.goto (-48), 3) := by decide +kernel
theorem dX4_fit_59 : decode cX4_fit 59 = .ok (.aload_n 0, 1) := by decide +kernel
theorem dX4_fit_60 : decode cX4_fit 60 = .ok (.getfield 56, 3) := by decide +kernel
theorem dX4_fit_63 : decode cX4_fit 63 = .ok (.bipush 99, 2) := by decide +kernel
theorem dX4_fit_65 : decode cX4_fit 65 = .ok (.if_icmp .ge 7, 3) := by decide +kernel
theorem dX4_fit_68 : decode cX4_fit 68 = .ok (.iconst 1, 1) := by decide +kernel
theorem dX4_fit_69 : decode cX4_fit 69 = .ok (.goto 4, 3) := by decide +kernel
theorem dX4_fit_72 : decode cX4_fit 72 = .ok (.iconst 0, 1) := by decide +kernel
theorem dX4_fit_73 : decode cX4_fit 73 = .ok (.ireturn, 1) := by decide +kernel
set_option maxRecDepth 20000 in
theorem ggX4_longest_X4_runFrom : GoodIn wsX4_longest wsX4_runFrom := goodIn_r _ [6, 1, 7, 8, 9, 10, 11, 12, 13, 14, 15, 16, 17, 18, 19, 20, 21, 22, 23, 24, 25, 26] (by decide +kernel) (by decide +kernel)
set_option maxRecDepth 20000 in
theorem gX4_longest_X4_runFrom : GoodIn wsX4_longest (wsV RX4 59 RX4 yX4_runFrom wsX4_runFrom) := goodIn_app (goodIn_of _ (by decide +kernel)) ggX4_longest_X4_runFrom
theorem dX4_longest_0 : decode cX4_longest 0 = .ok (.iconst 0, 1) := by decide +kernel
theorem dX4_longest_1 : decode cX4_longest 1 = .ok (.istore_n 2, 1) := by decide +kernel
theorem dX4_longest_2 : decode cX4_longest 2 = .ok (.iconst 0, 1) := by decide +kernel
theorem dX4_longest_3 : decode cX4_longest 3 = .ok (.istore_n 3, 1) := by decide +kernel
theorem dX4_longest_4 : decode cX4_longest 4 = .ok (.iconst 0, 1) := by decide +kernel
theorem dX4_longest_5 : decode cX4_longest 5 = .ok (.istore 4, 2) := by decide +kernel
theorem dX4_longest_7 : decode cX4_longest 7 = .ok (.iload 4, 2) := by decide +kernel
theorem dX4_longest_9 : decode cX4_longest 9 = .ok (.bipush 48, 2) := by decide +kernel
theorem dX4_longest_11 : decode cX4_longest 11 = .ok (.if_icmp .ge 75, 3) := by decide +kernel
theorem dX4_longest_14 : decode cX4_longest 14 = .ok (.aload_n 0, 1) := by decide +kernel
theorem dX4_longest_15 : decode cX4_longest 15 = .ok (.getfield 21, 3) := by decide +kernel
theorem dX4_longest_18 : decode cX4_longest 18 = .ok (.iload 4, 2) := by decide +kernel
theorem dX4_longest_20 : decode cX4_longest 20 = .ok (.iaload, 1) := by decide +kernel
theorem dX4_longest_21 : decode cX4_longest 21 = .ok (.ifCond .ne 12, 3) := by decide +kernel
theorem dX4_longest_24 : decode cX4_longest 24 = .ok (.aload_n 0, 1) := by decide +kernel
theorem dX4_longest_25 : decode cX4_longest 25 = .ok (.iload 4, 2) := by decide +kernel
theorem dX4_longest_27 : decode cX4_longest 27 = .ok (.invokevirtual 59, 3) := by decide +kernel
theorem dX4_longest_30 : decode cX4_longest 30 = .ok (.goto 4, 3) := by decide +kernel
theorem dX4_longest_33 : decode cX4_longest 33 = .ok (.iconst 0, 1) := by decide +kernel
theorem dX4_longest_34 : decode cX4_longest 34 = .ok (.istore 5, 2) := by decide +kernel
theorem dX4_longest_36 : decode cX4_longest 36 = .ok (.iload 5, 2) := by decide +kernel
theorem dX4_longest_38 : decode cX4_longest 38 = .ok (.iload_n 2, 1) := by decide +kernel
theorem dX4_longest_39 : decode cX4_longest 39 = .ok (.if_icmp .le 7, 3) := by decide +kernel
theorem dX4_longest_42 : decode cX4_longest 42 = .ok (.iload_n 2, 1) := by decide +kernel
theorem dX4_longest_43 : decode cX4_longest 43 = .ok (.goto 15, 3) := by decide +kernel
theorem dX4_longest_46 : decode cX4_longest 46 = .ok (.iload 5, 2) := by decide +kernel
theorem dX4_longest_48 : decode cX4_longest 48 = .ok (.iload_n 3, 1) := by decide +kernel
theorem dX4_longest_49 : decode cX4_longest 49 = .ok (.if_icmp .le 8, 3) := by decide +kernel
theorem dX4_longest_52 : decode cX4_longest 52 = .ok (.iload 5, 2) := by decide +kernel
theorem dX4_longest_54 : decode cX4_longest 54 = .ok (.goto 4, 3) := by decide +kernel
theorem dX4_longest_57 : decode cX4_longest 57 = .ok (.iload_n 3, 1) := by decide +kernel
theorem dX4_longest_58 : decode cX4_longest 58 = .ok (.istore_n 3, 1) := by decide +kernel
theorem dX4_longest_59 : decode cX4_longest 59 = .ok (.iload 5, 2) := by decide +kernel
theorem dX4_longest_61 : decode cX4_longest 61 = .ok (.iload_n 2, 1) := by decide +kernel
theorem dX4_longest_62 : decode cX4_longest 62 = .ok (.if_icmp .le 8, 3) := by decide +kernel
theorem dX4_longest_65 : decode cX4_longest 65 = .ok (.iload 5, 2) := by decide +kernel
theorem dX4_longest_67 : decode cX4_longest 67 = .ok (.goto 4, 3) := by decide +kernel
theorem dX4_longest_70 : decode cX4_longest 70 = .ok (.iload_n 2, 1) := by decide +kernel
theorem dX4_longest_71 : decode cX4_longest 71 = .ok (.istore_n 2, 1) := by decide +kernel
theorem dX4_longest_72 : decode cX4_longest 72 = .ok (.iload 4, 2) := by decide +kernel
theorem dX4_longest_74 : decode cX4_longest 74 = .ok (.aload_n 0, 1) := by decide +kernel
theorem dX4_longest_75 : decode cX4_longest 75 = .ok (.iload 4, 2) := by decide +kernel
theorem dX4_longest_77 : decode cX4_longest 77 = .ok (.invokevirtual 59, 3) := by decide +kernel
theorem dX4_longest_80 : decode cX4_longest 80 = .ok (.iadd, 1) := by decide +kernel
theorem dX4_longest_81 : decode cX4_longest 81 = .ok (.istore 4, 2) := by decide +kernel
theorem dX4_longest_83 : decode cX4_longest 83 = .ok (.goto (-76), 3) := by decide +kernel
theorem dX4_longest_86 : decode cX4_longest 86 = .ok (.iload_n 1, 1) := by decide +kernel
theorem dX4_longest_87 : decode cX4_longest 87 = .ok (.ifCond .eq 7, 3) := by decide +kernel
theorem dX4_longest_90 : decode cX4_longest 90 = .ok (.iload_n 3, 1) := by decide +kernel
theorem dX4_longest_91 : decode cX4_longest 91 = .ok (.goto 4, 3) := by decide +kernel
theorem dX4_longest_94 : decode cX4_longest 94 = .ok (.iload_n 2, 1) := by decide +kernel
theorem dX4_longest_95 : decode cX4_longest 95 = .ok (.ireturn, 1) := by decide +kernel
set_option maxRecDepth 20000 in
theorem ggX4_enter_X4_isName : GoodIn wsX4_enter wsX4_isName := goodIn_r _ [11] (by decide +kernel) (by decide +kernel)
set_option maxRecDepth 20000 in
theorem gX4_enter_X4_isName : GoodIn wsX4_enter (va_wsS RX4 66 yX4_isName wsX4_isName) := goodIn_app (goodIn_of _ (by decide +kernel)) ggX4_enter_X4_isName
set_option maxRecDepth 20000 in
theorem ggX4_enter_X4_howMany : GoodIn wsX4_enter wsX4_howMany := goodIn_r _ [15, 3, 54, 55, 56, 57, 58, 59, 60, 61, 62, 63, 64, 65, 66, 67, 68, 69, 70, 71, 72, 73] (by decide +kernel) (by decide +kernel)
set_option maxRecDepth 20000 in
theorem gX4_enter_X4_howMany : GoodIn wsX4_enter (wsV RX4 70 RX4 yX4_howMany wsX4_howMany) := goodIn_app (goodIn_of _ (by decide +kernel)) ggX4_enter_X4_howMany
set_option maxRecDepth 20000 in
theorem ggX4_enter_X4_longest : GoodIn wsX4_enter wsX4_longest := goodIn_r _ [19, 20, 21, 22, 23, 10, 24, 54, 55, 56, 57, 58, 59, 60, 61, 62, 63, 64, 65, 66, 67, 68, 69, 70, 71, 72, 73] (by decide +kernel) (by decide +kernel)
set_option maxRecDepth 20000 in
theorem gX4_enter_X4_longest : GoodIn wsX4_enter (wsV RX4 73 RX4 yX4_longest wsX4_longest) := goodIn_app (goodIn_of _ (by decide +kernel)) ggX4_enter_X4_longest
set_option maxRecDepth 20000 in
theorem ggX4_enter_X4_fit : GoodIn wsX4_enter wsX4_fit := goodIn_r _ [28, 29, 20, 4, 21, 22, 23, 10, 24, 54, 55, 56, 57, 58, 59, 60, 61, 62, 63, 64, 65, 66, 67, 68, 69, 70, 71, 72, 73] (by decide +kernel) (by decide +kernel)
set_option maxRecDepth 20000 in
theorem gX4_enter_X4_fit : GoodIn wsX4_enter (wsV RX4 77 RX4 yX4_fit wsX4_fit) := goodIn_app (goodIn_of _ (by decide +kernel)) ggX4_enter_X4_fit
set_option maxRecDepth 20000 in
theorem ggX4_enter_X4_lay : GoodIn wsX4_enter wsX4_lay := goodIn_r _ [33, 5, 20, 54, 55, 56, 57, 58, 59, 60, 61, 62, 63, 64, 65, 66, 67, 68, 69, 70, 71, 72, 73] (by decide +kernel) (by decide +kernel)
set_option maxRecDepth 20000 in
theorem gX4_enter_X4_lay : GoodIn wsX4_enter (wsV RX4 80 RX4 yX4_lay wsX4_lay) := goodIn_app (goodIn_of _ (by decide +kernel)) ggX4_enter_X4_lay
set_option maxRecDepth 20000 in
theorem ggX4_enter_X4_runs : GoodIn wsX4_enter wsX4_runs := goodIn_r _ [37, 5, 54, 55, 56, 57, 58, 59, 60, 61, 62, 63, 64, 65, 66, 67, 68, 69, 70, 71, 72, 73] (by decide +kernel) (by decide +kernel)
set_option maxRecDepth 20000 in
theorem gX4_enter_X4_runs : GoodIn wsX4_enter (wsV RX4 48 RX4 yX4_runs wsX4_runs) := goodIn_app (goodIn_of _ (by decide +kernel)) ggX4_enter_X4_runs
set_option maxRecDepth 20000 in
theorem ggX4_enter_X4_change : GoodIn wsX4_enter wsX4_change := goodIn_r _ [41, 20, 5, 34, 35, 36, 10, 37, 42, 43, 44, 45, 46, 1, 47, 48, 49, 54, 55, 56, 57, 58, 59, 60, 61, 62, 63, 64, 65, 66, 67, 68, 69, 70, 71, 72, 73] (by decide +kernel) (by decide +kernel)
set_option maxRecDepth 20000 in
theorem gX4_enter_X4_change : GoodIn wsX4_enter (wsV RX4 83 RX4 yX4_change wsX4_change) := goodIn_app (goodIn_of _ (by decide +kernel)) ggX4_enter_X4_change
set_option maxRecDepth 20000 in
theorem ggX4_enter_X4_byHandle : GoodIn wsX4_enter wsX4_byHandle := goodIn_r _ [53, 3, 7, 54, 55, 56, 57, 58, 59, 60, 61, 62, 63, 64, 65, 66, 67, 68, 69, 70, 71, 72, 73] (by decide +kernel) (by decide +kernel)
set_option maxRecDepth 20000 in
theorem gX4_enter_X4_byHandle : GoodIn wsX4_enter (wsV RX4 86 RX4 yX4_byHandle wsX4_byHandle) := goodIn_app (goodIn_of _ (by decide +kernel)) ggX4_enter_X4_byHandle
