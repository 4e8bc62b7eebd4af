theorem dX3_isOn_4 : decode cX3_isOn 4 = .ok (.invokevirtual 138, 3) := by decide +kernel
theorem dX3_isOn_7 : decode cX3_isOn 7 = .ok (.ireturn, 1) := by decide +kernel
set_option maxRecDepth 20000 in
theorem ggX3_requirePower_X1_isUp : GoodIn wsX3_requirePower wsX1_isUp := goodIn_r _ [8, 9, 16, 17, 18] (by decide +kernel) (by decide +kernel)
set_option maxRecDepth 20000 in
theorem gX3_requirePower_X1_isUp : GoodIn wsX3_requirePower (wsV RX3 138 RX1 yX1_isUp wsX1_isUp) := goodIn_app (goodIn_of _ (by decide +kernel)) ggX3_requirePower_X1_isUp
theorem dX3_requirePower_0 : decode cX3_requirePower 0 = .ok (.aload_n 0, 1) := by decide +kernel
theorem dX3_requirePower_1 : decode cX3_requirePower 1 = .ok (.getfield 10, 3) := by decide +kernel
theorem dX3_requirePower_4 : decode cX3_requirePower 4 = .ok (.invokevirtual 138, 3) := by decide +kernel
theorem dX3_requirePower_7 : decode cX3_requirePower 7 = .ok (.ifCond .ne 13, 3) := by decide +kernel
theorem dX3_requirePower_10 : decode cX3_requirePower 10 = .ok (.new 63, 3) := by decide +kernel
theorem dX3_requirePower_13 : decode cX3_requirePower 13 = .ok (.dup, 1) := by decide +kernel
theorem dX3_requirePower_14 : decode cX3_requirePower 14 = .ok (.ldc 179, 2) := by decide +kernel
theorem dX3_requirePower_16 : decode cX3_requirePower 16 = .ok (.invokespecial 67, 3) := by decide +kernel
theorem dX3_requirePower_19 : decode cX3_requirePower 19 = .ok (.athrow, 1) := by decide +kernel
theorem dX3_requirePower_20 : decode cX3_requirePower 20 = .ok (.return_, 1) := by decide +kernel
theorem dX3_requireName_0 : decode cX3_requireName 0 = .ok (.iload_n 1, 1) := by decide +kernel
theorem dX3_requireName_1 : decode cX3_requireName 1 = .ok (.iconst 1, 1) := by decide +kernel
theorem dX3_requireName_2 : decode cX3_requireName 2 = .ok (.if_icmp .lt 10, 3) := by decide +kernel
theorem dX3_requireName_5 : decode cX3_requireName 5 = .ok (.iload_n 1, 1) := by decide +kernel
theorem dX3_requireName_6 : decode cX3_requireName 6 = .ok (.sipush 999, 3) := by decide +kernel
theorem dX3_requireName_9 : decode cX3_requireName 9 = .ok (.if_icmp .le 13, 3) := by decide +kernel
theorem dX3_requireName_12 : decode cX3_requireName 12 = .ok (.new 52, 3) := by decide +kernel
theorem dX3_requireName_15 : decode cX3_requireName 15 = .ok (.dup, 1) := by decide +kernel
theorem dX3_requireName_16 : decode cX3_requireName 16 = .ok (.ldc 181, 2) := by decide +kernel
theorem dX3_requireName_18 : decode cX3_requireName 18 = .ok (.invokespecial 56, 3) := by decide +kernel
theorem dX3_requireName_21 : decode cX3_requireName 21 = .ok (.athrow, 1) := by decide +kernel
theorem dX3_requireName_22 : decode cX3_requireName 22 = .ok (.return_, 1) := by decide +kernel
set_option maxRecDepth 20000 in
theorem ggX3_requireTentative_X0_findTentative : GoodIn wsX3_requireTentative wsX0_findTentative := goodIn_r _ [8, 9, 10, 11, 12, 13, 14, 15, 16, 17, 24, 25, 26, 27, 28, 29] (by decide +kernel) (by decide +kernel)
set_option maxRecDepth 20000 in
theorem gX3_requireTentative_X0_findTentative : GoodIn wsX3_requireTentative (wsV RX3 183 RX0 yX0_findTentative wsX0_findTentative) := goodIn_app (goodIn_of _ (by decide +kernel)) ggX3_requireTentative_X0_findTentative
theorem dX3_requireTentative_0 : decode cX3_requireTentative 0 = .ok (.aload_n 0, 1) := by decide +kernel
theorem dX3_requireTentative_1 : decode cX3_requireTentative 1 = .ok (.getfield 28, 3) := by decide +kernel
theorem dX3_requireTentative_4 : decode cX3_requireTentative 4 = .ok (.iload_n 1, 1) := by decide +kernel
theorem dX3_requireTentative_5 : decode cX3_requireTentative 5 = .ok (.invokevirtual 183, 3) := by decide +kernel
theorem dX3_requireTentative_8 : decode cX3_requireTentative 8 = .ok (.istore_n 2, 1) := by decide +kernel
theorem dX3_requireTentative_9 : decode cX3_requireTentative 9 = .ok (.iload_n 2, 1) := by decide +kernel
theorem dX3_requireTentative_10 : decode cX3_requireTentative 10 = .ok (.iconst (-1), 1) := by decide +kernel
theorem dX3_requireTentative_11 : decode cX3_requireTentative 11 = .ok (.if_icmp .ne 13, 3) := by decide +kernel
theorem dX3_requireTentative_14 : decode cX3_requireTentative 14 = .ok (.new 186, 3) := by decide +kernel
theorem dX3_requireTentative_17 : decode cX3_requireTentative 17 = .ok (.dup, 1) := by decide +kernel
theorem dX3_requireTentative_18 : decode cX3_requireTentative 18 = .ok (.ldc 188, 2) := by decide +kernel
theorem dX3_requireTentative_20 : decode cX3_requireTentative 20 = .ok (.invokespecial 190, 3) := by decide +kernel
theorem dX3_requireTentative_23 : decode cX3_requireTentative 23 = .ok (.athrow, 1) := by decide +kernel
theorem dX3_requireTentative_24 : decode cX3_requireTentative 24 = .ok (.iload_n 2, 1) := by decide +kernel
theorem dX3_requireTentative_25 : decode cX3_requireTentative 25 = .ok (.ireturn, 1) := by decide +kernel
set_option maxRecDepth 20000 in
theorem ggX3_requirePermanent_X0_findPermanent : GoodIn wsX3_requirePermanent wsX0_findPermanent := goodIn_r _ [8, 9, 10, 11, 12, 13, 14, 15, 16, 17, 24, 25, 26, 27, 28, 29] (by decide +kernel) (by decide +kernel)
set_option maxRecDepth 20000 in
theorem gX3_requirePermanent_X0_findPermanent : GoodIn wsX3_requirePermanent (wsV RX3 122 RX0 yX0_findPermanent wsX0_findPermanent) := goodIn_app (goodIn_of _ (by decide +kernel)) ggX3_requirePermanent_X0_findPermanent
theorem dX3_requirePermanent_0 : decode cX3_requirePermanent 0 = .ok (.aload_n 0, 1) := by decide +kernel
theorem dX3_requirePermanent_1 : decode cX3_requirePermanent 1 = .ok (.getfield 28, 3) := by decide +kernel
theorem dX3_requirePermanent_4 : decode cX3_requirePermanent 4 = .ok (.iload_n 1, 1) := by decide +kernel
theorem dX3_requirePermanent_5 : decode cX3_requirePermanent 5 = .ok (.invokevirtual 122, 3) := by decide +kernel
theorem dX3_requirePermanent_8 : decode cX3_requirePermanent 8 = .ok (.istore_n 2, 1) := by decide +kernel
theorem dX3_requirePermanent_9 : decode cX3_requirePermanent 9 = .ok (.iload_n 2, 1) := by decide +kernel
theorem dX3_requirePermanent_10 : decode cX3_requirePermanent 10 = .ok (.iconst (-1), 1) := by decide +kernel
theorem dX3_requirePermanent_11 : decode cX3_requirePermanent 11 = .ok (.if_icmp .ne 13, 3) := by decide +kernel
theorem dX3_requirePermanent_14 : decode cX3_requirePermanent 14 = .ok (.new 186, 3) := by decide +kernel
theorem dX3_requirePermanent_17 : decode cX3_requirePermanent 17 = .ok (.dup, 1) := by decide +kernel
theorem dX3_requirePermanent_18 : decode cX3_requirePermanent 18 = .ok (.ldc 191, 2) := by decide +kernel
theorem dX3_requirePermanent_20 : decode cX3_requirePermanent 20 = .ok (.invokespecial 190, 3) := by decide +kernel
theorem dX3_requirePermanent_23 : decode cX3_requirePermanent 23 = .ok (.athrow, 1) := by decide +kernel
theorem dX3_requirePermanent_24 : decode cX3_requirePermanent 24 = .ok (.iload_n 2, 1) := by decide +kernel
theorem dX3_requirePermanent_25 : decode cX3_requirePermanent 25 = .ok (.ireturn, 1) := by decide +kernel
set_option maxRecDepth 20000 in
theorem ggX3_requireBlock_X0_lengthAt : GoodIn wsX3_requireBlock wsX0_lengthAt := goodIn_r _ [8, 9, 10, 11, 12, 13, 14, 15, 22, 23, 24, 25, 26, 27] (by decide +kernel) (by decide +kernel)
set_option maxRecDepth 20000 in
theorem gX3_requireBlock_X0_lengthAt : GoodIn wsX3_requireBlock (wsV RX3 105 RX0 yX0_lengthAt wsX0_lengthAt) := goodIn_app (goodIn_of _ (by decide +kernel)) ggX3_requireBlock_X0_lengthAt
theorem dX3_requireBlock_0 : decode cX3_requireBlock 0 = .ok (.iload_n 2, 1) := by decide +kernel
theorem dX3_requireBlock_1 : decode cX3_requireBlock 1 = .ok (.ifCond .lt 15, 3) := by decide +kernel
theorem dX3_requireBlock_4 : decode cX3_requireBlock 4 = .ok (.iload_n 2, 1) := by decide +kernel
theorem dX3_requireBlock_5 : decode cX3_requireBlock 5 = .ok (.aload_n 0, 1) := by decide +kernel
theorem dX3_requireBlock_6 : decode cX3_requireBlock 6 = .ok (.getfield 28, 3) := by decide +kernel
theorem dX3_requireBlock_9 : decode cX3_requireBlock 9 = .ok (.iload_n 1, 1) := by decide +kernel
theorem dX3_requireBlock_10 : decode cX3_requireBlock 10 = .ok (.invokevirtual 105, 3) := by decide +kernel
theorem dX3_requireBlock_13 : decode cX3_requireBlock 13 = .ok (.if_icmp .lt 13, 3) := by decide +kernel
theorem dX3_requireBlock_16 : decode cX3_requireBlock 16 = .ok (.new 52, 3) := by decide +kernel
theorem dX3_requireBlock_19 : decode cX3_requireBlock 19 = .ok (.dup, 1) := by decide +kernel
theorem dX3_requireBlock_20 : decode cX3_requireBlock 20 = .ok (.ldc 193, 2) := by decide +kernel
theorem dX3_requireBlock_22 : decode cX3_requireBlock 22 = .ok (.invokespecial 56, 3) := by decide +kernel
theorem dX3_requireBlock_25 : decode cX3_requireBlock 25 = .ok (.athrow, 1) := by decide +kernel
theorem dX3_requireBlock_26 : decode cX3_requireBlock 26 = .ok (.return_, 1) := by decide +kernel
set_option maxRecDepth 20000 in
theorem ggX3_requireFewEntries_X0_count : GoodIn wsX3_requireFewEntries wsX0_count := goodIn_r _ [8, 9, 16, 17, 18, 19, 20] (by decide +kernel) (by decide +kernel)
set_option maxRecDepth 20000 in
theorem gX3_requireFewEntries_X0_count : GoodIn wsX3_requireFewEntries (wsV RX3 156 RX0 yX0_count wsX0_count) := goodIn_app (goodIn_of _ (by decide +kernel)) ggX3_requireFewEntries_X0_count
theorem dX3_requireFewEntries_0 : decode cX3_requireFewEntries 0 = .ok (.aload_n 0, 1) := by decide +kernel
theorem dX3_requireFewEntries_1 : decode cX3_requireFewEntries 1 = .ok (.getfield 32, 3) := by decide +kernel
theorem dX3_requireFewEntries_4 : decode cX3_requireFewEntries 4 = .ok (.invokevirtual 156, 3) := by decide +kernel
theorem dX3_requireFewEntries_7 : decode cX3_requireFewEntries 7 = .ok (.bipush 16, 2) := by decide +kernel
theorem dX3_requireFewEntries_9 : decode cX3_requireFewEntries 9 = .ok (.if_icmp .le 13, 3) := by decide +kernel
theorem dX3_requireFewEntries_12 : decode cX3_requireFewEntries 12 = .ok (.new 75, 3) := by decide +kernel
theorem dX3_requireFewEntries_15 : decode cX3_requireFewEntries 15 = .ok (.dup, 1) := by decide +kernel
theorem dX3_requireFewEntries_16 : decode cX3_requireFewEntries 16 = .ok (.ldc 195, 2) := by decide +kernel
theorem dX3_requireFewEntries_18 : decode cX3_requireFewEntries 18 = .ok (.invokespecial 79, 3) := by decide +kernel
theorem dX3_requireFewEntries_21 : decode cX3_requireFewEntries 21 = .ok (.athrow, 1) := by decide +kernel
theorem dX3_requireFewEntries_22 : decode cX3_requireFewEntries 22 = .ok (.return_, 1) := by decide +kernel
set_option maxRecDepth 20000 in
theorem ggX3_draftInPlaceOf_X0_clear : GoodIn wsX3_draftInPlaceOf wsX0_clear := goodIn_r _ [7, 8, 63, 64, 65, 66, 67] (by decide +kernel) (by decide +kernel)
set_option maxRecDepth 20000 in
theorem gX3_draftInPlaceOf_X0_clear : GoodIn wsX3_draftInPlaceOf (wsV RX3 197 RX0 yX0_clear wsX0_clear) := goodIn_app (goodIn_of _ (by decide +kernel)) ggX3_draftInPlaceOf_X0_clear
set_option maxRecDepth 20000 in
theorem ggX3_draftInPlaceOf_X0_addRange : GoodIn wsX3_draftInPlaceOf wsX0_addRange := goodIn_r _ [12, 13, 14, 15, 6, 16, 17, 18, 19, 20, 21, 22, 23, 24, 25, 26, 27, 28, 29, 30, 31, 32, 33, 34, 35, 36, 37, 38, 39, 40, 41, 42, 8, 43, 44, 45, 46, 63, 64, 65, 66, 67, 68] (by decide +kernel) (by decide +kernel)
set_option maxRecDepth 20000 in
theorem gX3_draftInPlaceOf_X0_addRange : GoodIn wsX3_draftInPlaceOf (wsV RX3 200 RX0 yX0_addRange wsX0_addRange) := goodIn_app (goodIn_of _ (by decide +kernel)) ggX3_draftInPlaceOf_X0_addRange
set_option maxRecDepth 20000 in
theorem ggX3_draftInPlaceOf_X0_add : GoodIn wsX3_draftInPlaceOf wsX0_add := goodIn_r _ [42, 8, 17, 28, 33, 38, 18, 19, 20, 21, 22, 23, 43, 44, 45, 46, 63, 64, 65, 66, 67, 68] (by decide +kernel) (by decide +kernel)
set_option maxRecDepth 20000 in
theorem gX3_draftInPlaceOf_X0_add : GoodIn wsX3_draftInPlaceOf (wsV RX3 204 RX0 yX0_add wsX0_add) := goodIn_app (goodIn_of _ (by decide +kernel)) ggX3_draftInPlaceOf_X0_add
set_option maxRecDepth 20000 in
theorem ggX3_draftInPlaceOf_X0_lengthAt : GoodIn wsX3_draftInPlaceOf wsX0_lengthAt := goodIn_r _ [27, 28, 18, 19, 20, 21, 22, 23, 63, 64, 65, 66, 67, 68] (by decide +kernel) (by decide +kernel)
set_option maxRecDepth 20000 in
theorem gX3_draftInPlaceOf_X0_lengthAt : GoodIn wsX3_draftInPlaceOf (wsV RX3 105 RX0 yX0_lengthAt wsX0_lengthAt) := goodIn_app (goodIn_of _ (by decide +kernel)) ggX3_draftInPlaceOf_X0_lengthAt
set_option maxRecDepth 20000 in
theorem ggX3_draftInPlaceOf_X0_addEmpty : GoodIn wsX3_draftInPlaceOf wsX0_addEmpty := goodIn_r _ [52, 39, 40, 41, 6, 42, 8, 17, 28, 33, 38, 18, 19, 20, 21, 22, 23, 43, 44, 45, 46, 63, 64, 65, 66, 67, 68] (by decide +kernel) (by decide +kernel)
set_option maxRecDepth 20000 in
theorem gX3_draftInPlaceOf_X0_addEmpty : GoodIn wsX3_draftInPlaceOf (wsV RX3 43 RX0 yX0_addEmpty wsX0_addEmpty) := goodIn_app (goodIn_of _ (by decide +kernel)) ggX3_draftInPlaceOf_X0_addEmpty
set_option maxRecDepth 20000 in
theorem ggX3_draftInPlaceOf_X0_count : GoodIn wsX3_draftInPlaceOf wsX0_count := goodIn_r _ [56, 8, 63, 64, 65, 66, 67] (by decide +kernel) (by decide +kernel)
set_option maxRecDepth 20000 in
theorem gX3_draftInPlaceOf_X0_count : GoodIn wsX3_draftInPlaceOf (wsV RX3 156 RX0 yX0_count wsX0_count) := goodIn_app (goodIn_of _ (by decide +kernel)) ggX3_draftInPlaceOf_X0_count
theorem dX3_draftInPlaceOf_0 : decode cX3_draftInPlaceOf 0 = .ok (.aload_n 0, 1) := by decide +kernel
theorem dX3_draftInPlaceOf_1 : decode cX3_draftInPlaceOf 1 = .ok (.getfield 32, 3) := by decide +kernel
theorem dX3_draftInPlaceOf_4 : decode cX3_draftInPlaceOf 4 = .ok (.invokevirtual 197, 3) := by decide +kernel
theorem dX3_draftInPlaceOf_7 : decode cX3_draftInPlaceOf 7 = .ok (.aload_n 0, 1) := by decide +kernel
theorem dX3_draftInPlaceOf_8 : decode cX3_draftInPlaceOf 8 = .ok (.getfield 32, 3) := by decide +kernel
theorem dX3_draftInPlaceOf_11 : decode cX3_draftInPlaceOf 11 = .ok (.aload_n 0, 1) := by decide +kernel
theorem dX3_draftInPlaceOf_12 : decode cX3_draftInPlaceOf 12 = .ok (.getfield 28, 3) := by decide +kernel
theorem dX3_draftInPlaceOf_15 : decode cX3_draftInPlaceOf 15 = .ok (.iconst 0, 1) := by decide +kernel
theorem dX3_draftInPlaceOf_16 : decode cX3_draftInPlaceOf 16 = .ok (.iload_n 1, 1) := by decide +kernel
theorem dX3_draftInPlaceOf_17 : decode cX3_draftInPlaceOf 17 = .ok (.invokevirtual 200, 3) := by decide +kernel
theorem dX3_draftInPlaceOf_20 : decode cX3_draftInPlaceOf 20 = .ok (.aload_n 0, 1) := by decide +kernel
theorem dX3_draftInPlaceOf_21 : decode cX3_draftInPlaceOf 21 = .ok (.getfield 32, 3) := by decide +kernel
theorem dX3_draftInPlaceOf_24 : decode cX3_draftInPlaceOf 24 = .ok (.iload_n 2, 1) := by decide +kernel
theorem dX3_draftInPlaceOf_25 : decode cX3_draftInPlaceOf 25 = .ok (.iload_n 3, 1) := by decide +kernel
theorem dX3_draftInPlaceOf_26 : decode cX3_draftInPlaceOf 26 = .ok (.iload 4, 2) := by decide +kernel
theorem dX3_draftInPlaceOf_28 : decode cX3_draftInPlaceOf 28 = .ok (.iload 5, 2) := by decide +kernel
theorem dX3_draftInPlaceOf_30 : decode cX3_draftInPlaceOf 30 = .ok (.invokevirtual 204, 3) := by decide +kernel
theorem dX3_draftInPlaceOf_33 : decode cX3_draftInPlaceOf 33 = .ok (.aload_n 0, 1) := by decide +kernel
theorem dX3_draftInPlaceOf_34 : decode cX3_draftInPlaceOf 34 = .ok (.getfield 32, 3) := by decide +kernel
theorem dX3_draftInPlaceOf_37 : decode cX3_draftInPlaceOf 37 = .ok (.aload_n 0, 1) := by decide +kernel
theorem dX3_draftInPlaceOf_38 : decode cX3_draftInPlaceOf 38 = .ok (.getfield 28, 3) := by decide +kernel
theorem dX3_draftInPlaceOf_41 : decode cX3_draftInPlaceOf 41 = .ok (.iload_n 1, 1) := by decide +kernel
theorem dX3_draftInPlaceOf_42 : decode cX3_draftInPlaceOf 42 = .ok (.invokevirtual 105, 3) := by decide +kernel
theorem dX3_draftInPlaceOf_45 : decode cX3_draftInPlaceOf 45 = .ok (.iload_n 3, 1) := by decide +kernel
theorem dX3_draftInPlaceOf_46 : decode cX3_draftInPlaceOf 46 = .ok (.isub, 1) := by decide +kernel
theorem dX3_draftInPlaceOf_47 : decode cX3_draftInPlaceOf 47 = .ok (.invokevirtual 43, 3) := by decide +kernel
theorem dX3_draftInPlaceOf_50 : decode cX3_draftInPlaceOf 50 = .ok (.aload_n 0, 1) := by decide +kernel
theorem dX3_draftInPlaceOf_51 : decode cX3_draftInPlaceOf 51 = .ok (.getfield 32, 3) := by decide +kernel
theorem dX3_draftInPlaceOf_54 : decode cX3_draftInPlaceOf 54 = .ok (.aload_n 0, 1) := by decide +kernel
theorem dX3_draftInPlaceOf_55 : decode cX3_draftInPlaceOf 55 = .ok (.getfield 28, 3) := by decide +kernel
theorem dX3_draftInPlaceOf_58 : decode cX3_draftInPlaceOf 58 = .ok (.iload_n 1, 1) := by decide +kernel
theorem dX3_draftInPlaceOf_59 : decode cX3_draftInPlaceOf 59 = .ok (.iconst 1, 1) := by decide +kernel
theorem dX3_draftInPlaceOf_60 : decode cX3_draftInPlaceOf 60 = .ok (.iadd, 1) := by decide +kernel
theorem dX3_draftInPlaceOf_61 : decode cX3_draftInPlaceOf 61 = .ok (.aload_n 0, 1) := by decide +kernel
theorem dX3_draftInPlaceOf_62 : decode cX3_draftInPlaceOf 62 = .ok (.getfield 28, 3) := by decide +kernel
theorem dX3_draftInPlaceOf_65 : decode cX3_draftInPlaceOf 65 = .ok (.invokevirtual 156, 3) := by decide +kernel
theorem dX3_draftInPlaceOf_68 : decode cX3_draftInPlaceOf 68 = .ok (.invokevirtual 200, 3) := by decide +kernel
theorem dX3_draftInPlaceOf_71 : decode cX3_draftInPlaceOf 71 = .ok (.return_, 1) := by decide +kernel
set_option maxRecDepth 20000 in
theorem ggX3_draftClosed_X0_nameAt : GoodIn wsX3_draftClosed wsX0_nameAt := goodIn_r _ [7, 8, 9, 10, 11, 12, 13, 14, 68, 69, 70, 71, 72, 73] (by decide +kernel) (by decide +kernel)
set_option maxRecDepth 20000 in
theorem gX3_draftClosed_X0_nameAt : GoodIn wsX3_draftClosed (wsV RX3 167 RX0 yX0_nameAt wsX0_nameAt) := goodIn_app (goodIn_of _ (by decide +kernel)) ggX3_draftClosed_X0_nameAt
set_option maxRecDepth 20000 in
theorem ggX3_draftClosed_X0_findPermanent : GoodIn wsX3_draftClosed wsX0_findPermanent := goodIn_r _ [18, 19, 20, 8, 9, 10, 11, 12, 13, 14, 68, 69, 70, 71, 72, 73] (by decide +kernel) (by decide +kernel)
set_option maxRecDepth 20000 in
theorem gX3_draftClosed_X0_findPermanent : GoodIn wsX3_draftClosed (wsV RX3 122 RX0 yX0_findPermanent wsX0_findPermanent) := goodIn_app (goodIn_of _ (by decide +kernel)) ggX3_draftClosed_X0_findPermanent
set_option maxRecDepth 20000 in
theorem ggX3_draftClosed_X0_clear : GoodIn wsX3_draftClosed wsX0_clear := goodIn_r _ [24, 19, 68, 69, 70, 71, 72] (by decide +kernel) (by decide +kernel)
set_option maxRecDepth 20000 in
theorem gX3_draftClosed_X0_clear : GoodIn wsX3_draftClosed (wsV RX3 197 RX0 yX0_clear wsX0_clear) := goodIn_app (goodIn_of _ (by decide +kernel)) ggX3_draftClosed_X0_clear
set_option maxRecDepth 20000 in
theorem ggX3_draftClosed_X0_count : GoodIn wsX3_draftClosed wsX0_count := goodIn_r _ [28, 19, 68, 69, 70, 71, 72] (by decide +kernel) (by decide +kernel)
set_option maxRecDepth 20000 in
theorem gX3_draftClosed_X0_count : GoodIn wsX3_draftClosed (wsV RX3 156 RX0 yX0_count wsX0_count) := goodIn_app (goodIn_of _ (by decide +kernel)) ggX3_draftClosed_X0_count
set_option maxRecDepth 20000 in
theorem ggX3_draftClosed_X0_add : GoodIn wsX3_draftClosed wsX0_add := goodIn_r _ [32, 19, 20, 33, 8, 34, 9, 10, 11, 12, 13, 14, 35, 36, 37, 38, 68, 69, 70, 71, 72, 73] (by decide +kernel) (by decide +kernel)
set_option maxRecDepth 20000 in
theorem gX3_draftClosed_X0_add : GoodIn wsX3_draftClosed (wsV RX3 204 RX0 yX0_add wsX0_add) := goodIn_app (goodIn_of _ (by decide +kernel)) ggX3_draftClosed_X0_add
set_option maxRecDepth 20000 in
theorem ggX3_draftClosed_X0_lengthAt : GoodIn wsX3_draftClosed wsX0_lengthAt := goodIn_r _ [42, 33, 9, 10, 11, 12, 13, 14, 68, 69, 70, 71, 72, 73] (by decide +kernel) (by decide +kernel)
set_option maxRecDepth 20000 in
theorem gX3_draftClosed_X0_lengthAt : GoodIn wsX3_draftClosed (wsV RX3 105 RX0 yX0_lengthAt wsX0_lengthAt) := goodIn_app (goodIn_of _ (by decide +kernel)) ggX3_draftClosed_X0_lengthAt
set_option maxRecDepth 20000 in
theorem ggX3_draftClosed_X0_addEmpty : GoodIn wsX3_draftClosed wsX0_addEmpty := goodIn_r _ [46, 47, 30, 31, 6, 32, 19, 20, 33, 8, 34, 9, 10, 11, 12, 13, 14, 35, 36, 37, 38, 68, 69, 70, 71, 72, 73] (by decide +kernel) (by decide +kernel)
set_option maxRecDepth 20000 in
theorem gX3_draftClosed_X0_addEmpty : GoodIn wsX3_draftClosed (wsV RX3 43 RX0 yX0_addEmpty wsX0_addEmpty) := goodIn_app (goodIn_of _ (by decide +kernel)) ggX3_draftClosed_X0_addEmpty
set_option maxRecDepth 20000 in
theorem ggX3_draftClosed_X0_addRange : GoodIn wsX3_draftClosed wsX0_addRange := goodIn_r _ [51, 52, 53, 54, 6, 55, 20, 9, 10, 11, 12, 13, 14, 56, 40, 41, 42, 33, 57, 4, 5, 7, 8, 58, 59, 60, 61, 34, 47, 30, 31, 32, 19, 35, 36, 37, 38, 68, 69, 70, 71, 72, 73] (by decide +kernel) (by decide +kernel)
set_option maxRecDepth 20000 in
theorem gX3_draftClosed_X0_addRange : GoodIn wsX3_draftClosed (wsV RX3 200 RX0 yX0_addRange wsX0_addRange) := goodIn_app (goodIn_of _ (by decide +kernel)) ggX3_draftClosed_X0_addRange
theorem dX3_draftClosed_0 : decode cX3_draftClosed 0 = .ok (.aload_n 0, 1) := by decide +kernel
theorem dX3_draftClosed_1 : decode cX3_draftClosed 1 = .ok (.getfield 28, 3) := by decide +kernel
theorem dX3_draftClosed_4 : decode cX3_draftClosed 4 = .ok (.iload_n 1, 1) := by decide +kernel
theorem dX3_draftClosed_5 : decode cX3_draftClosed 5 = .ok (.invokevirtual 167, 3) := by decide +kernel
theorem dX3_draftClosed_8 : decode cX3_draftClosed 8 = .ok (.istore_n 3, 1) := by decide +kernel
theorem dX3_draftClosed_9 : decode cX3_draftClosed 9 = .ok (.aload_n 0, 1) := by decide +kernel
theorem dX3_draftClosed_10 : decode cX3_draftClosed 10 = .ok (.getfield 28, 3) := by decide +kernel
theorem dX3_draftClosed_13 : decode cX3_draftClosed 13 = .ok (.iload_n 3, 1) := by decide +kernel
theorem dX3_draftClosed_14 : decode cX3_draftClosed 14 = .ok (.invokevirtual 122, 3) := by decide +kernel
theorem dX3_draftClosed_17 : decode cX3_draftClosed 17 = .ok (.istore 4, 2) := by decide +kernel
theorem dX3_draftClosed_19 : decode cX3_draftClosed 19 = .ok (.aload_n 0, 1) := by decide +kernel
theorem dX3_draftClosed_20 : decode cX3_draftClosed 20 = .ok (.getfield 32, 3) := by decide +kernel
theorem dX3_draftClosed_23 : decode cX3_draftClosed 23 = .ok (.invokevirtual 197, 3) := by decide +kernel
theorem dX3_draftClosed_26 : decode cX3_draftClosed 26 = .ok (.iconst 0, 1) := by decide +kernel
theorem dX3_draftClosed_27 : decode cX3_draftClosed 27 = .ok (.istore 5, 2) := by decide +kernel
theorem dX3_draftClosed_29 : decode cX3_draftClosed 29 = .ok (.iload 5, 2) := by decide +kernel
theorem dX3_draftClosed_31 : decode cX3_draftClosed 31 = .ok (.aload_n 0, 1) := by decide +kernel
theorem dX3_draftClosed_32 : decode cX3_draftClosed 32 = .ok (.getfield 28, 3) := by decide +kernel
theorem dX3_draftClosed_35 : decode cX3_draftClosed 35 = .ok (.invokevirtual 156, 3) := by decide +kernel
theorem dX3_draftClosed_38 : decode cX3_draftClosed 38 = .ok (.if_icmp .ge 90, 3) := by decide +kernel
theorem dX3_draftClosed_41 : decode cX3_draftClosed 41 = .ok (.iload 5, 2) := by decide +kernel
theorem dX3_draftClosed_43 : decode cX3_draftClosed 43 = .ok (.iload_n 1, 1) := by decide +kernel
theorem dX3_draftClosed_44 : decode cX3_draftClosed 44 = .ok (.if_icmp .ne 35, 3) := by decide +kernel
theorem dX3_draftClosed_47 : decode cX3_draftClosed 47 = .ok (.aload_n 0, 1) := by decide +kernel
theorem dX3_draftClosed_48 : decode cX3_draftClosed 48 = .ok (.getfield 32, 3) := by decide +kernel
theorem dX3_draftClosed_51 : decode cX3_draftClosed 51 = .ok (.iconst 2, 1) := by decide +kernel
theorem dX3_draftClosed_52 : decode cX3_draftClosed 52 = .ok (.iload_n 2, 1) := by decide +kernel
theorem dX3_draftClosed_53 : decode cX3_draftClosed 53 = .ok (.iload_n 3, 1) := by decide +kernel
theorem dX3_draftClosed_54 : decode cX3_draftClosed 54 = .ok (.iconst (-1), 1) := by decide +kernel
theorem dX3_draftClosed_55 : decode cX3_draftClosed 55 = .ok (.invokevirtual 204, 3) := by decide +kernel
theorem dX3_draftClosed_58 : decode cX3_draftClosed 58 = .ok (.aload_n 0, 1) := by decide +kernel
theorem dX3_draftClosed_59 : decode cX3_draftClosed 59 = .ok (.getfield 32, 3) := by decide +kernel
theorem dX3_draftClosed_62 : decode cX3_draftClosed 62 = .ok (.aload_n 0, 1) := by decide +kernel
theorem dX3_draftClosed_63 : decode cX3_draftClosed 63 = .ok (.getfield 28, 3) := by decide +kernel
theorem dX3_draftClosed_66 : decode cX3_draftClosed 66 = .ok (.iload 5, 2) := by decide +kernel
theorem dX3_draftClosed_68 : decode cX3_draftClosed 68 = .ok (.invokevirtual 105, 3) := by decide +kernel
theorem dX3_draftClosed_71 : decode cX3_draftClosed 71 = .ok (.iload_n 2, 1) := by decide +kernel
theorem dX3_draftClosed_72 : decode cX3_draftClosed 72 = .ok (.isub, 1) := by decide +kernel
theorem dX3_draftClosed_73 : decode cX3_draftClosed 73 = .ok (.invokevirtual 43, 3) := by decide +kernel
theorem dX3_draftClosed_76 : decode cX3_draftClosed 76 = .ok (.goto 46, 3) := by decide +kernel
theorem dX3_draftClosed_79 : decode cX3_draftClosed 79 = .ok (.iload 5, 2) := by decide +kernel
theorem dX3_draftClosed_81 : decode cX3_draftClosed 81 = .ok (.iload 4, 2) := by decide +kernel
theorem dX3_draftClosed_83 : decode cX3_draftClosed 83 = .ok (.if_icmp .ne 22, 3) := by decide +kernel
theorem dX3_draftClosed_86 : decode cX3_draftClosed 86 = .ok (.aload_n 0, 1) := by decide +kernel
theorem dX3_draftClosed_87 : decode cX3_draftClosed 87 = .ok (.getfield 32, 3) := by decide +kernel
theorem dX3_draftClosed_90 : decode cX3_draftClosed 90 = .ok (.aload_n 0, 1) := by decide +kernel
theorem dX3_draftClosed_91 : decode cX3_draftClosed 91 = .ok (.getfield 28, 3) := by decide +kernel
theorem dX3_draftClosed_94 : decode cX3_draftClosed 94 = .ok (.iload 5, 2) := by decide +kernel
theorem dX3_draftClosed_96 : decode cX3_draftClosed 96 = .ok (.invokevirtual 105, 3) := by decide +kernel
theorem dX3_draftClosed_99 : decode cX3_draftClosed 99 = .ok (.invokevirtual 43, 3) := by decide +kernel
theorem dX3_draftClosed_102 : decode cX3_draftClosed 102 = .ok (.goto 20, 3) := by decide +kernel
theorem dX3_draftClosed_105 : decode cX3_draftClosed 105 = .ok (.aload_n 0, 1) := by decide +kernel
theorem dX3_draftClosed_106 : decode cX3_draftClosed 106 = .ok (.getfield 32, 3) := by decide +kernel
theorem dX3_draftClosed_109 : decode cX3_draftClosed 109 = .ok (.aload_n 0, 1) := by decide +kernel
theorem dX3_draftClosed_110 : decode cX3_draftClosed 110 = .ok (.getfield 28, 3) := by decide +kernel
theorem dX3_draftClosed_113 : decode cX3_draftClosed 113 = .ok (.iload 5, 2) := by decide +kernel
theorem dX3_draftClosed_115 : decode cX3_draftClosed 115 = .ok (.iload 5, 2) := by decide +kernel
theorem dX3_draftClosed_117 : decode cX3_draftClosed 117 = .ok (.iconst 1, 1) := by decide +kernel
theorem dX3_draftClosed_118 : decode cX3_draftClosed 118 = .ok (.iadd, 1) := by decide +kernel
theorem dX3_draftClosed_119 : decode cX3_draftClosed 119 = .ok (.invokevirtual 200, 3) := by decide +kernel
theorem dX3_draftClosed_122 : decode cX3_draftClosed 122 = .ok (.iinc 5 1, 3) := by decide +kernel
theorem dX3_draftClosed_125 : decode cX3_draftClosed 125 = .ok (.goto (-96), 3) := by decide +kernel
theorem dX3_draftClosed_128 : decode cX3_draftClosed 128 = .ok (.return_, 1) := by decide +kernel
set_option maxRecDepth 20000 in
theorem ggX3_draftWithoutTentative_X0_clear : GoodIn wsX3_draftWithoutTentative wsX0_clear := goodIn_r _ [7, 8, 63, 64, 65, 66, 67] (by decide +kernel) (by decide +kernel)
set_option maxRecDepth 20000 in
theorem gX3_draftWithoutTentative_X0_clear : GoodIn wsX3_draftWithoutTentative (wsV RX3 197 RX0 yX0_clear wsX0_clear) := goodIn_app (goodIn_of _ (by decide +kernel)) ggX3_draftWithoutTentative_X0_clear
set_option maxRecDepth 20000 in
theorem ggX3_draftWithoutTentative_X0_count : GoodIn wsX3_draftWithoutTentative wsX0_count := goodIn_r _ [12, 8, 63, 64, 65, 66, 67] (by decide +kernel) (by decide +kernel)
set_option maxRecDepth 20000 in
theorem gX3_draftWithoutTentative_X0_count : GoodIn wsX3_draftWithoutTentative (wsV RX3 156 RX0 yX0_count wsX0_count) := goodIn_app (goodIn_of _ (by decide +kernel)) ggX3_draftWithoutTentative_X0_count
set_option maxRecDepth 20000 in
theorem ggX3_draftWithoutTentative_X0_kindAt : GoodIn wsX3_draftWithoutTentative wsX0_kindAt := goodIn_r _ [16, 17, 18, 19, 20, 21, 22, 23, 63, 64, 65, 66, 67, 68] (by decide +kernel) (by decide +kernel)
set_option maxRecDepth 20000 in
theorem gX3_draftWithoutTentative_X0_kindAt : GoodIn wsX3_draftWithoutTentative (wsV RX3 164 RX0 yX0_kindAt wsX0_kindAt) := goodIn_app (goodIn_of _ (by decide +kernel)) ggX3_draftWithoutTentative_X0_kindAt
set_option maxRecDepth 20000 in
theorem ggX3_draftWithoutTentative_X0_lengthAt : GoodIn wsX3_draftWithoutTentative wsX0_lengthAt := goodIn_r _ [27, 28, 18, 19, 20, 21, 22, 23, 63, 64, 65, 66, 67, 68] (by decide +kernel) (by decide +kernel)
set_option maxRecDepth 20000 in
theorem gX3_draftWithoutTentative_X0_lengthAt : GoodIn wsX3_draftWithoutTentative (wsV RX3 105 RX0 yX0_lengthAt wsX0_lengthAt) := goodIn_app (goodIn_of _ (by decide +kernel)) ggX3_draftWithoutTentative_X0_lengthAt
set_option maxRecDepth 20000 in
theorem ggX3_draftWithoutTentative_X0_addEmpty : GoodIn wsX3_draftWithoutTentative wsX0_addEmpty := goodIn_r _ [32, 33, 34, 35, 6, 36, 8, 17, 28, 37, 38, 18, 19, 20, 21, 22, 23, 39, 40, 41, 42, 63, 64, 65, 66, 67, 68] (by decide +kernel) (by decide +kernel)
set_option maxRecDepth 20000 in
theorem gX3_draftWithoutTentative_X0_addEmpty : GoodIn wsX3_draftWithoutTentative (wsV RX3 43 RX0 yX0_addEmpty wsX0_addEmpty) := goodIn_app (goodIn_of _ (by decide +kernel)) ggX3_draftWithoutTentative_X0_addEmpty
set_option maxRecDepth 20000 in
theorem ggX3_draftWithoutTentative_X0_addRange : GoodIn wsX3_draftWithoutTentative wsX0_addRange := goodIn_r _ [46, 47, 14, 15, 6, 16, 17, 18, 19, 20, 21, 22, 23, 48, 25, 26, 27, 28, 49, 50, 51, 52, 37, 53, 54, 55, 56, 38, 33, 34, 35, 36, 8, 39, 40, 41, 42, 63, 64, 65, 66, 67, 68] (by decide +kernel) (by decide +kernel)
set_option maxRecDepth 20000 in
theorem gX3_draftWithoutTentative_X0_addRange : GoodIn wsX3_draftWithoutTentative (wsV RX3 200 RX0 yX0_addRange wsX0_addRange) := goodIn_app (goodIn_of _ (by decide +kernel)) ggX3_draftWithoutTentative_X0_addRange
theorem dX3_draftWithoutTentative_0 : decode cX3_draftWithoutTentative 0 = .ok (.aload_n 0, 1) := by decide +kernel
theorem dX3_draftWithoutTentative_1 : decode cX3_draftWithoutTentative 1 = .ok (.getfield 32, 3) := by decide +kernel
theorem dX3_draftWithoutTentative_4 : decode cX3_draftWithoutTentative 4 = .ok (.invokevirtual 197, 3) := by decide +kernel
theorem dX3_draftWithoutTentative_7 : decode cX3_draftWithoutTentative 7 = .ok (.iconst 0, 1) := by decide +kernel
theorem dX3_draftWithoutTentative_8 : decode cX3_draftWithoutTentative 8 = .ok (.istore_n 1, 1) := by decide +kernel
theorem dX3_draftWithoutTentative_9 : decode cX3_draftWithoutTentative 9 = .ok (.iload_n 1, 1) := by decide +kernel
theorem dX3_draftWithoutTentative_10 : decode cX3_draftWithoutTentative 10 = .ok (.aload_n 0, 1) := by decide +kernel
theorem dX3_draftWithoutTentative_11 : decode cX3_draftWithoutTentative 11 = .ok (.getfield 28, 3) := by decide +kernel
theorem dX3_draftWithoutTentative_14 : decode cX3_draftWithoutTentative 14 = .ok (.invokevirtual 156, 3) := by decide +kernel
theorem dX3_draftWithoutTentative_17 : decode cX3_draftWithoutTentative 17 = .ok (.if_icmp .ge 54, 3) := by decide +kernel
theorem dX3_draftWithoutTentative_20 : decode cX3_draftWithoutTentative 20 = .ok (.aload_n 0, 1) := by decide +kernel
theorem dX3_draftWithoutTentative_21 : decode cX3_draftWithoutTentative 21 = .ok (.getfield 28, 3) := by decide +kernel
theorem dX3_draftWithoutTentative_24 : decode cX3_draftWithoutTentative 24 = .ok (.iload_n 1, 1) := by decide +kernel
theorem dX3_draftWithoutTentative_25 : decode cX3_draftWithoutTentative 25 = .ok (.invokevirtual 164, 3) := by decide +kernel
theorem dX3_draftWithoutTentative_28 : decode cX3_draftWithoutTentative 28 = .ok (.iconst 1, 1) := by decide +kernel
theorem dX3_draftWithoutTentative_29 : decode cX3_draftWithoutTentative 29 = .ok (.if_icmp .ne 21, 3) := by decide +kernel
theorem dX3_draftWithoutTentative_32 : decode cX3_draftWithoutTentative 32 = .ok (.aload_n 0, 1) := by decide +kernel
theorem dX3_draftWithoutTentative_33 : decode cX3_draftWithoutTentative 33 = .ok (.getfield 32, 3) := by decide +kernel
theorem dX3_draftWithoutTentative_36 : decode cX3_draftWithoutTentative 36 = .ok (.aload_n 0, 1) := by decide +kernel
theorem dX3_draftWithoutTentative_37 : decode cX3_draftWithoutTentative 37 = .ok (.getfield 28, 3) := by decide +kernel
theorem dX3_draftWithoutTentative_40 : decode cX3_draftWithoutTentative 40 = .ok (.iload_n 1, 1) := by decide +kernel
theorem dX3_draftWithoutTentative_41 : decode cX3_draftWithoutTentative 41 = .ok (.invokevirtual 105, 3) := by decide +kernel
theorem dX3_draftWithoutTentative_44 : decode cX3_draftWithoutTentative 44 = .ok (.invokevirtual 43, 3) := by decide +kernel
theorem dX3_draftWithoutTentative_47 : decode cX3_draftWithoutTentative 47 = .ok (.goto 18, 3) := by decide +kernel
theorem dX3_draftWithoutTentative_50 : decode cX3_draftWithoutTentative 50 = .ok (.aload_n 0, 1) := by decide +kernel
theorem dX3_draftWithoutTentative_51 : decode cX3_draftWithoutTentative 51 = .ok (.getfield 32, 3) := by decide +kernel
theorem dX3_draftWithoutTentative_54 : decode cX3_draftWithoutTentative 54 = .ok (.aload_n 0, 1) := by decide +kernel
theorem dX3_draftWithoutTentative_55 : decode cX3_draftWithoutTentative 55 = .ok (.getfield 28, 3) := by decide +kernel
theorem dX3_draftWithoutTentative_58 : decode cX3_draftWithoutTentative 58 = .ok (.iload_n 1, 1) := by decide +kernel
theorem dX3_draftWithoutTentative_59 : decode cX3_draftWithoutTentative 59 = .ok (.iload_n 1, 1) := by decide +kernel
theorem dX3_draftWithoutTentative_60 : decode cX3_draftWithoutTentative 60 = .ok (.iconst 1, 1) := by decide +kernel
theorem dX3_draftWithoutTentative_61 : decode cX3_draftWithoutTentative 61 = .ok (.iadd, 1) := by decide +kernel
theorem dX3_draftWithoutTentative_62 : decode cX3_draftWithoutTentative 62 = .ok (.invokevirtual 200, 3) := by decide +kernel
theorem dX3_draftWithoutTentative_65 : decode cX3_draftWithoutTentative 65 = .ok (.iinc 1 1, 3) := by decide +kernel
theorem dX3_draftWithoutTentative_68 : decode cX3_draftWithoutTentative 68 = .ok (.goto (-59), 3) := by decide +kernel
theorem dX3_draftWithoutTentative_71 : decode cX3_draftWithoutTentative 71 = .ok (.return_, 1) := by decide +kernel
set_option maxRecDepth 20000 in
theorem ggX3_draftMovedBefore_X0_clear : GoodIn wsX3_draftMovedBefore wsX0_clear := goodIn_r _ [7, 8, 62, 63, 64, 65, 66] (by decide +kernel) (by decide +kernel)
set_option maxRecDepth 20000 in
theorem gX3_draftMovedBefore_X0_clear : GoodIn wsX3_draftMovedBefore (wsV RX3 197 RX0 yX0_clear wsX0_clear) := goodIn_app (goodIn_of _ (by decide +kernel)) ggX3_draftMovedBefore_X0_clear
set_option maxRecDepth 20000 in
theorem ggX3_draftMovedBefore_X0_addRange : GoodIn wsX3_draftMovedBefore wsX0_addRange := goodIn_r _ [12, 13, 14, 15, 6, 16, 17, 18, 19, 20, 21, 22, 23, 24, 25, 26, 27, 28, 29, 30, 31, 32, 33, 34, 35, 36, 37, 38, 39, 40, 41, 42, 8, 43, 44, 45, 46, 62, 63, 64, 65, 66, 67] (by decide +kernel) (by decide +kernel)
set_option maxRecDepth 20000 in
theorem gX3_draftMovedBefore_X0_addRange : GoodIn wsX3_draftMovedBefore (wsV RX3 200 RX0 yX0_addRange wsX0_addRange) := goodIn_app (goodIn_of _ (by decide +kernel)) ggX3_draftMovedBefore_X0_addRange
set_option maxRecDepth 20000 in
theorem ggX3_draftMovedBefore_X0_lengthAt : GoodIn wsX3_draftMovedBefore wsX0_lengthAt := goodIn_r _ [27, 28, 18, 19, 20, 21, 22, 23, 62, 63, 64, 65, 66, 67] (by decide +kernel) (by decide +kernel)
set_option maxRecDepth 20000 in
theorem gX3_draftMovedBefore_X0_lengthAt : GoodIn wsX3_draftMovedBefore (wsV RX3 105 RX0 yX0_lengthAt wsX0_lengthAt) := goodIn_app (goodIn_of _ (by decide +kernel)) ggX3_draftMovedBefore_X0_lengthAt
set_option maxRecDepth 20000 in
theorem ggX3_draftMovedBefore_X0_addEmpty : GoodIn wsX3_draftMovedBefore wsX0_addEmpty := goodIn_r _ [51, 39, 40, 41, 6, 42, 8, 17, 28, 33, 38, 18, 19, 20, 21, 22, 23, 43, 44, 45, 46, 62, 63, 64, 65, 66, 67] (by decide +kernel) (by decide +kernel)
set_option maxRecDepth 20000 in
theorem gX3_draftMovedBefore_X0_addEmpty : GoodIn wsX3_draftMovedBefore (wsV RX3 43 RX0 yX0_addEmpty wsX0_addEmpty) := goodIn_app (goodIn_of _ (by decide +kernel)) ggX3_draftMovedBefore_X0_addEmpty
set_option maxRecDepth 20000 in
theorem ggX3_draftMovedBefore_X0_count : GoodIn wsX3_draftMovedBefore wsX0_count := goodIn_r _ [55, 8, 62, 63, 64, 65, 66] (by decide +kernel) (by decide +kernel)
set_option maxRecDepth 20000 in
theorem gX3_draftMovedBefore_X0_count : GoodIn wsX3_draftMovedBefore (wsV RX3 156 RX0 yX0_count wsX0_count) := goodIn_app (goodIn_of _ (by decide +kernel)) ggX3_draftMovedBefore_X0_count
theorem dX3_draftMovedBefore_0 : decode cX3_draftMovedBefore 0 = .ok (.aload_n 0, 1) := by decide +kernel
theorem dX3_draftMovedBefore_1 : decode cX3_draftMovedBefore 1 = .ok (.getfield 32, 3) := by decide +kernel
theorem dX3_draftMovedBefore_4 : decode cX3_draftMovedBefore 4 = .ok (.invokevirtual 197, 3) := by decide +kernel
theorem dX3_draftMovedBefore_7 : decode cX3_draftMovedBefore 7 = .ok (.aload_n 0, 1) := by decide +kernel
theorem dX3_draftMovedBefore_8 : decode cX3_draftMovedBefore 8 = .ok (.getfield 32, 3) := by decide +kernel
theorem dX3_draftMovedBefore_11 : decode cX3_draftMovedBefore 11 = .ok (.aload_n 0, 1) := by decide +kernel
theorem dX3_draftMovedBefore_12 : decode cX3_draftMovedBefore 12 = .ok (.getfield 28, 3) := by decide +kernel
theorem dX3_draftMovedBefore_15 : decode cX3_draftMovedBefore 15 = .ok (.iconst 0, 1) := by decide +kernel
theorem dX3_draftMovedBefore_16 : decode cX3_draftMovedBefore 16 = .ok (.iload_n 1, 1) := by decide +kernel
theorem dX3_draftMovedBefore_17 : decode cX3_draftMovedBefore 17 = .ok (.invokevirtual 200, 3) := by decide +kernel
theorem dX3_draftMovedBefore_20 : decode cX3_draftMovedBefore 20 = .ok (.aload_n 0, 1) := by decide +kernel
theorem dX3_draftMovedBefore_21 : decode cX3_draftMovedBefore 21 = .ok (.getfield 32, 3) := by decide +kernel
theorem dX3_draftMovedBefore_24 : decode cX3_draftMovedBefore 24 = .ok (.aload_n 0, 1) := by decide +kernel
theorem dX3_draftMovedBefore_25 : decode cX3_draftMovedBefore 25 = .ok (.getfield 28, 3) := by decide +kernel
theorem dX3_draftMovedBefore_28 : decode cX3_draftMovedBefore 28 = .ok (.iload_n 1, 1) := by decide +kernel
theorem dX3_draftMovedBefore_29 : decode cX3_draftMovedBefore 29 = .ok (.iconst 1, 1) := by decide +kernel
theorem dX3_draftMovedBefore_30 : decode cX3_draftMovedBefore 30 = .ok (.iadd, 1) := by decide +kernel
theorem dX3_draftMovedBefore_31 : decode cX3_draftMovedBefore 31 = .ok (.iload_n 1, 1) := by decide +kernel
theorem dX3_draftMovedBefore_32 : decode cX3_draftMovedBefore 32 = .ok (.iconst 2, 1) := by decide +kernel
theorem dX3_draftMovedBefore_33 : decode cX3_draftMovedBefore 33 = .ok (.iadd, 1) := by decide +kernel
theorem dX3_draftMovedBefore_34 : decode cX3_draftMovedBefore 34 = .ok (.invokevirtual 200, 3) := by decide +kernel
theorem dX3_draftMovedBefore_37 : decode cX3_draftMovedBefore 37 = .ok (.aload_n 0, 1) := by decide +kernel
theorem dX3_draftMovedBefore_38 : decode cX3_draftMovedBefore 38 = .ok (.getfield 32, 3) := by decide +kernel
theorem dX3_draftMovedBefore_41 : decode cX3_draftMovedBefore 41 = .ok (.aload_n 0, 1) := by decide +kernel
theorem dX3_draftMovedBefore_42 : decode cX3_draftMovedBefore 42 = .ok (.getfield 28, 3) := by decide +kernel
theorem dX3_draftMovedBefore_45 : decode cX3_draftMovedBefore 45 = .ok (.iload_n 1, 1) := by decide +kernel
theorem dX3_draftMovedBefore_46 : decode cX3_draftMovedBefore 46 = .ok (.invokevirtual 105, 3) := by decide +kernel
theorem dX3_draftMovedBefore_49 : decode cX3_draftMovedBefore 49 = .ok (.invokevirtual 43, 3) := by decide +kernel
theorem dX3_draftMovedBefore_52 : decode cX3_draftMovedBefore 52 = .ok (.aload_n 0, 1) := by decide +kernel
theorem dX3_draftMovedBefore_53 : decode cX3_draftMovedBefore 53 = .ok (.getfield 32, 3) := by decide +kernel
theorem dX3_draftMovedBefore_56 : decode cX3_draftMovedBefore 56 = .ok (.aload_n 0, 1) := by decide +kernel
theorem dX3_draftMovedBefore_57 : decode cX3_draftMovedBefore 57 = .ok (.getfield 28, 3) := by decide +kernel
theorem dX3_draftMovedBefore_60 : decode cX3_draftMovedBefore 60 = .ok (.iload_n 1, 1) := by decide +kernel
theorem dX3_draftMovedBefore_61 : decode cX3_draftMovedBefore 61 = .ok (.iconst 2, 1) := by decide +kernel
theorem dX3_draftMovedBefore_62 : decode cX3_draftMovedBefore 62 = .ok (.iadd, 1) := by decide +kernel
theorem dX3_draftMovedBefore_63 : decode cX3_draftMovedBefore 63 = .ok (.aload_n 0, 1) := by decide +kernel
theorem dX3_draftMovedBefore_64 : decode cX3_draftMovedBefore 64 = .ok (.getfield 28, 3) := by decide +kernel
theorem dX3_draftMovedBefore_67 : decode cX3_draftMovedBefore 67 = .ok (.invokevirtual 156, 3) := by decide +kernel
theorem dX3_draftMovedBefore_70 : decode cX3_draftMovedBefore 70 = .ok (.invokevirtual 200, 3) := by decide +kernel
theorem dX3_draftMovedBefore_73 : decode cX3_draftMovedBefore 73 = .ok (.return_, 1) := by decide +kernel
set_option maxRecDepth 20000 in
theorem ggX3_makeEmpty_X0_lengthAt : GoodIn wsX3_makeEmpty wsX0_lengthAt := goodIn_r _ [6, 7, 8, 9, 10, 11, 12, 13, 90, 91, 92, 93, 94, 95] (by decide +kernel) (by decide +kernel)
set_option maxRecDepth 20000 in
theorem gX3_makeEmpty_X0_lengthAt : GoodIn wsX3_makeEmpty (wsV RX3 105 RX0 yX0_lengthAt wsX0_lengthAt) := goodIn_app (goodIn_of _ (by decide +kernel)) ggX3_makeEmpty_X0_lengthAt
set_option maxRecDepth 20000 in
theorem ggX3_makeEmpty_X3_draftInPlaceOf : GoodIn wsX3_makeEmpty wsX3_draftInPlaceOf := goodIn_r _ [18, 19, 1, 20, 21, 22, 5, 23, 24, 25, 26, 27, 28, 29, 30, 31, 32, 33, 8, 9, 10, 11, 12, 13, 34, 3, 4, 6, 7, 35, 36, 37, 38, 39, 40, 41, 42, 43, 44, 45, 46, 47, 48, 49, 50, 51, 52, 53, 2, 54, 55, 56, 57, 58, 59, 60, 61, 84, 85, 86, 87, 88, 89, 90, 91, 92, 93, 94, 95] (by decide +kernel) (by decide +kernel)
set_option maxRecDepth 20000 in
theorem gX3_makeEmpty_X3_draftInPlaceOf : GoodIn wsX3_makeEmpty (wsV RX3 80 RX3 yX3_draftInPlaceOf wsX3_draftInPlaceOf) := goodIn_app (goodIn_of _ (by decide +kernel)) ggX3_makeEmpty_X3_draftInPlaceOf
set_option maxRecDepth 20000 in
theorem ggX3_makeEmpty_X3_change : GoodIn wsX3_makeEmpty wsX3_change := goodIn_r _ [65, 19, 66, 1, 58, 59, 60, 5, 61, 24, 67, 68, 69, 70, 71, 72, 73, 74, 75, 76, 77, 78, 33, 7, 39, 44, 79, 80, 81, 11, 82, 13, 83, 9, 10, 12, 84, 85, 86, 87, 88, 89, 90, 91, 92, 93, 94, 96, 97, 98, 95] (by decide +kernel) (by decide +kernel)
set_option maxRecDepth 20000 in
theorem gX3_makeEmpty_X3_change : GoodIn wsX3_makeEmpty (wsV RX3 87 RX3 yX3_change wsX3_change) := goodIn_app (goodIn_of _ (by decide +kernel)) ggX3_makeEmpty_X3_change
theorem dX3_makeEmpty_0 : decode cX3_makeEmpty 0 = .ok (.aload_n 0, 1) := by decide +kernel
theorem dX3_makeEmpty_1 : decode cX3_makeEmpty 1 = .ok (.getfield 28, 3) := by decide +kernel
theorem dX3_makeEmpty_4 : decode cX3_makeEmpty 4 = .ok (.iload_n 1, 1) := by decide +kernel
theorem dX3_makeEmpty_5 : decode cX3_makeEmpty 5 = .ok (.invokevirtual 105, 3) := by decide +kernel
theorem dX3_makeEmpty_8 : decode cX3_makeEmpty 8 = .ok (.istore_n 2, 1) := by decide +kernel
theorem dX3_makeEmpty_9 : decode cX3_makeEmpty 9 = .ok (.aload_n 0, 1) := by decide +kernel
theorem dX3_makeEmpty_10 : decode cX3_makeEmpty 10 = .ok (.iload_n 1, 1) := by decide +kernel
theorem dX3_makeEmpty_11 : decode cX3_makeEmpty 11 = .ok (.iconst 0, 1) := by decide +kernel
theorem dX3_makeEmpty_12 : decode cX3_makeEmpty 12 = .ok (.iload_n 2, 1) := by decide +kernel
theorem dX3_makeEmpty_13 : decode cX3_makeEmpty 13 = .ok (.iconst 0, 1) := by decide +kernel
theorem dX3_makeEmpty_14 : decode cX3_makeEmpty 14 = .ok (.iconst (-1), 1) := by decide +kernel
theorem dX3_makeEmpty_15 : decode cX3_makeEmpty 15 = .ok (.invokevirtual 80, 3) := by decide +kernel
theorem dX3_makeEmpty_18 : decode cX3_makeEmpty 18 = .ok (.aload_n 0, 1) := by decide +kernel
theorem dX3_makeEmpty_19 : decode cX3_makeEmpty 19 = .ok (.invokevirtual 87, 3) := by decide +kernel
theorem dX3_makeEmpty_22 : decode cX3_makeEmpty 22 = .ok (.ifCond .eq 7, 3) := by decide +kernel
theorem dX3_makeEmpty_25 : decode cX3_makeEmpty 25 = .ok (.iload_n 2, 1) := by decide +kernel
theorem dX3_makeEmpty_26 : decode cX3_makeEmpty 26 = .ok (.goto 4, 3) := by decide +kernel
theorem dX3_makeEmpty_29 : decode cX3_makeEmpty 29 = .ok (.iconst (-1), 1) := by decide +kernel
theorem dX3_makeEmpty_30 : decode cX3_makeEmpty 30 = .ok (.ireturn, 1) := by decide +kernel
set_option maxRecDepth 20000 in
theorem ggX3_change_X0_count : GoodIn wsX3_change wsX0_count := goodIn_r _ [8, 9, 42, 43, 44, 45, 46] (by decide +kernel) (by decide +kernel)
set_option maxRecDepth 20000 in
theorem gX3_change_X0_count : GoodIn wsX3_change (wsV RX3 156 RX0 yX0_count wsX0_count) := goodIn_app (goodIn_of _ (by decide +kernel)) ggX3_change_X0_count
set_option maxRecDepth 20000 in
theorem ggX3_change_X1_countWrite : GoodIn wsX3_change wsX1_countWrite := goodIn_r _ [14, 15, 16, 17, 47, 48, 49] (by decide +kernel) (by decide +kernel)
set_option maxRecDepth 20000 in
theorem gX3_change_X1_countWrite : GoodIn wsX3_change (wsV RX3 208 RX1 yX1_countWrite wsX1_countWrite) := goodIn_app (goodIn_of _ (by decide +kernel)) ggX3_change_X1_countWrite
set_option maxRecDepth 20000 in
theorem ggX3_change_X0_takeOver : GoodIn wsX3_change wsX0_takeOver := goodIn_r _ [21, 22, 23, 24, 25, 9, 26, 27, 28, 29, 30, 31, 32, 33, 34, 35, 42, 43, 44, 45, 46, 50] (by decide +kernel) (by decide +kernel)
set_option maxRecDepth 20000 in
theorem gX3_change_X0_takeOver : GoodIn wsX3_change (wsV RX3 211 RX0 yX0_takeOver wsX0_takeOver) := goodIn_app (goodIn_of _ (by decide +kernel)) ggX3_change_X0_takeOver
theorem dX3_change_0 : decode cX3_change 0 = .ok (.aload_n 0, 1) := by decide +kernel
theorem dX3_change_1 : decode cX3_change 1 = .ok (.getfield 32, 3) := by decide +kernel
theorem dX3_change_4 : decode cX3_change 4 = .ok (.invokevirtual 156, 3) := by decide +kernel
theorem dX3_change_7 : decode cX3_change 7 = .ok (.iconst 4, 1) := by decide +kernel
theorem dX3_change_8 : decode cX3_change 8 = .ok (.iadd, 1) := by decide +kernel
theorem dX3_change_9 : decode cX3_change 9 = .ok (.iconst 1, 1) := by decide +kernel
theorem dX3_change_10 : decode cX3_change 10 = .ok (.isub, 1) := by decide +kernel
theorem dX3_change_11 : decode cX3_change 11 = .ok (.iconst 4, 1) := by decide +kernel
theorem dX3_change_12 : decode cX3_change 12 = .ok (.idiv, 1) := by decide +kernel
theorem dX3_change_13 : decode cX3_change 13 = .ok (.istore_n 1, 1) := by decide +kernel
theorem dX3_change_14 : decode cX3_change 14 = .ok (.iconst 0, 1) := by decide +kernel
theorem dX3_change_15 : decode cX3_change 15 = .ok (.istore_n 2, 1) := by decide +kernel
theorem dX3_change_16 : decode cX3_change 16 = .ok (.iload_n 2, 1) := by decide +kernel
theorem dX3_change_17 : decode cX3_change 17 = .ok (.iload_n 1, 1) := by decide +kernel
theorem dX3_change_18 : decode cX3_change 18 = .ok (.iconst 1, 1) := by decide +kernel
theorem dX3_change_19 : decode cX3_change 19 = .ok (.iadd, 1) := by decide +kernel
theorem dX3_change_20 : decode cX3_change 20 = .ok (.if_icmp .ge 21, 3) := by decide +kernel
theorem dX3_change_23 : decode cX3_change 23 = .ok (.aload_n 0, 1) := by decide +kernel
theorem dX3_change_24 : decode cX3_change 24 = .ok (.getfield 10, 3) := by decide +kernel
theorem dX3_change_27 : decode cX3_change 27 = .ok (.invokevirtual 208, 3) := by decide +kernel
theorem dX3_change_30 : decode cX3_change 30 = .ok (.ifCond .ne 5, 3) := by decide +kernel
theorem dX3_change_33 : decode cX3_change 33 = .ok (.iconst 0, 1) := by decide +kernel
theorem dX3_change_34 : decode cX3_change 34 = .ok (.ireturn, 1) := by decide +kernel
theorem dX3_change_35 : decode cX3_change 35 = .ok (.iinc 2 1, 3) := by decide +kernel
theorem dX3_change_38 : decode cX3_change 38 = .ok (.goto (-22), 3) := by decide +kernel
theorem dX3_change_41 : decode cX3_change 41 = .ok (.aload_n 0, 1) := by decide +kernel
theorem dX3_change_42 : decode cX3_change 42 = .ok (.getfield 28, 3) := by decide +kernel
theorem dX3_change_45 : decode cX3_change 45 = .ok (.aload_n 0, 1) := by decide +kernel
theorem dX3_change_46 : decode cX3_change 46 = .ok (.getfield 32, 3) := by decide +kernel
theorem dX3_change_49 : decode cX3_change 49 = .ok (.invokevirtual 211, 3) := by decide +kernel
theorem dX3_change_52 : decode cX3_change 52 = .ok (.iconst 1, 1) := by decide +kernel
theorem dX3_change_53 : decode cX3_change 53 = .ok (.ireturn, 1) := by decide +kernel
set_option maxRecDepth 20000 in
theorem ggX3_writeBlock_X1_countWrite : GoodIn wsX3_writeBlock wsX1_countWrite := goodIn_r _ [7, 8, 9, 10, 23, 24, 25] (by decide +kernel) (by decide +kernel)
set_option maxRecDepth 20000 in
theorem gX3_writeBlock_X1_countWrite : GoodIn wsX3_writeBlock (wsV RX3 208 RX1 yX1_countWrite wsX1_countWrite) := goodIn_app (goodIn_of _ (by decide +kernel)) ggX3_writeBlock_X1_countWrite
set_option maxRecDepth 20000 in
theorem ggX3_writeBlock_X2_set : GoodIn wsX3_writeBlock wsX2_set := goodIn_r _ [15, 16, 26] (by decide +kernel) (by decide +kernel)
set_option maxRecDepth 20000 in
theorem gX3_writeBlock_X2_set : GoodIn wsX3_writeBlock (wsV RX3 215 RX2 yX2_set wsX2_set) := goodIn_app (goodIn_of _ (by decide +kernel)) ggX3_writeBlock_X2_set
theorem dX3_writeBlock_0 : decode cX3_writeBlock 0 = .ok (.aload_n 0, 1) := by decide +kernel
theorem dX3_writeBlock_1 : decode cX3_writeBlock 1 = .ok (.getfield 10, 3) := by decide +kernel
theorem dX3_writeBlock_4 : decode cX3_writeBlock 4 = .ok (.invokevirtual 208, 3) := by decide +kernel
theorem dX3_writeBlock_7 : decode cX3_writeBlock 7 = .ok (.ifCond .ne 5, 3) := by decide +kernel
theorem dX3_writeBlock_10 : decode cX3_writeBlock 10 = .ok (.iconst 0, 1) := by decide +kernel
theorem dX3_writeBlock_11 : decode cX3_writeBlock 11 = .ok (.ireturn, 1) := by decide +kernel
theorem dX3_writeBlock_12 : decode cX3_writeBlock 12 = .ok (.aload_n 0, 1) := by decide +kernel
theorem dX3_writeBlock_13 : decode cX3_writeBlock 13 = .ok (.getfield 21, 3) := by decide +kernel
theorem dX3_writeBlock_16 : decode cX3_writeBlock 16 = .ok (.iload_n 1, 1) := by decide +kernel
theorem dX3_writeBlock_17 : decode cX3_writeBlock 17 = .ok (.iload_n 2, 1) := by decide +kernel
theorem dX3_writeBlock_18 : decode cX3_writeBlock 18 = .ok (.invokevirtual 215, 3) := by decide +kernel
theorem dX3_writeBlock_21 : decode cX3_writeBlock 21 = .ok (.iconst 1, 1) := by decide +kernel
theorem dX3_writeBlock_22 : decode cX3_writeBlock 22 = .ok (.ireturn, 1) := by decide +kernel
set_option maxRecDepth 20000 in
theorem ggX3_writeLedger_X1_countWrite : GoodIn wsX3_writeLedger wsX1_countWrite := goodIn_r _ [8, 9, 10, 11, 18, 19, 20] (by decide +kernel) (by decide +kernel)
set_option maxRecDepth 20000 in
theorem gX3_writeLedger_X1_countWrite : GoodIn wsX3_writeLedger (wsV RX3 208 RX1 yX1_countWrite wsX1_countWrite) := goodIn_app (goodIn_of _ (by decide +kernel)) ggX3_writeLedger_X1_countWrite
theorem dX3_writeLedger_0 : decode cX3_writeLedger 0 = .ok (.aload_n 0, 1) := by decide +kernel
theorem dX3_writeLedger_1 : decode cX3_writeLedger 1 = .ok (.getfield 10, 3) := by decide +kernel
theorem dX3_writeLedger_4 : decode cX3_writeLedger 4 = .ok (.invokevirtual 208, 3) := by decide +kernel
theorem dX3_writeLedger_7 : decode cX3_writeLedger 7 = .ok (.ifCond .ne 5, 3) := by decide +kernel
theorem dX3_writeLedger_10 : decode cX3_writeLedger 10 = .ok (.iconst 0, 1) := by decide +kernel
theorem dX3_writeLedger_11 : decode cX3_writeLedger 11 = .ok (.ireturn, 1) := by decide +kernel
theorem dX3_writeLedger_12 : decode cX3_writeLedger 12 = .ok (.aload_n 0, 1) := by decide +kernel
theorem dX3_writeLedger_13 : decode cX3_writeLedger 13 = .ok (.iload_n 1, 1) := by decide +kernel
theorem dX3_writeLedger_14 : decode cX3_writeLedger 14 = .ok (.putfield 39, 3) := by decide +kernel
theorem dX3_writeLedger_17 : decode cX3_writeLedger 17 = .ok (.aload_n 0, 1) := by decide +kernel
theorem dX3_writeLedger_18 : decode cX3_writeLedger 18 = .ok (.iconst 1, 1) := by decide +kernel
theorem dX3_writeLedger_19 : decode cX3_writeLedger 19 = .ok (.putfield 35, 3) := by decide +kernel
theorem dX3_writeLedger_22 : decode cX3_writeLedger 22 = .ok (.iconst 1, 1) := by decide +kernel
theorem dX3_writeLedger_23 : decode cX3_writeLedger 23 = .ok (.ireturn, 1) := by decide +kernel
set_option maxRecDepth 20000 in
theorem ggX3_moveAll_X0_findGap : GoodIn wsX3_moveAll wsX0_findGap := goodIn_r _ [7, 8, 9, 10, 11, 12, 13, 14, 15, 125, 126, 127, 128, 129, 130] (by decide +kernel) (by decide +kernel)
set_option maxRecDepth 20000 in
theorem gX3_moveAll_X0_findGap : GoodIn wsX3_moveAll (wsV RX3 218 RX0 yX0_findGap wsX0_findGap) := goodIn_app (goodIn_of _ (by decide +kernel)) ggX3_moveAll_X0_findGap
set_option maxRecDepth 20000 in
theorem ggX3_moveAll_X0_lengthAt : GoodIn wsX3_moveAll wsX0_lengthAt := goodIn_r _ [19, 20, 10, 11, 12, 13, 14, 15, 125, 126, 127, 128, 129, 130] (by decide +kernel) (by decide +kernel)
set_option maxRecDepth 20000 in
theorem gX3_moveAll_X0_lengthAt : GoodIn wsX3_moveAll (wsV RX3 105 RX0 yX0_lengthAt wsX0_lengthAt) := goodIn_app (goodIn_of _ (by decide +kernel)) ggX3_moveAll_X0_lengthAt
set_option maxRecDepth 20000 in
theorem ggX3_moveAll_X3_moveDown : GoodIn wsX3_moveAll wsX3_moveDown := goodIn_r _ [25, 26, 27, 28, 29, 24, 30, 1, 31, 32, 33, 34, 35, 36, 37, 38, 39, 40, 41, 6, 42, 8, 20, 10, 11, 12, 13, 14, 15, 16, 17, 18, 19, 43, 44, 45, 46, 47, 2, 48, 49, 50, 51, 52, 53, 54, 55, 56, 57, 58, 59, 60, 61, 62, 63, 64, 65, 66, 67, 68, 69, 70, 71, 72, 73, 74, 75, 76, 77, 78, 79, 80, 81, 9, 82, 83, 84, 85, 86, 87, 88, 89, 90, 91, 92, 93, 94, 95, 96, 97, 98, 99, 100, 101, 102, 103, 104, 105, 106, 107, 108, 109, 110, 111, 112, 113, 114, 115, 116, 117, 118, 119, 120, 121, 122, 123, 124, 125, 126, 127, 128, 129, 130, 131, 132, 133] (by decide +kernel) (by decide +kernel)
set_option maxRecDepth 20000 in
theorem gX3_moveAll_X3_moveDown : GoodIn wsX3_moveAll (wsV RX3 221 RX3 yX3_moveDown wsX3_moveDown) := goodIn_app (goodIn_of _ (by decide +kernel)) ggX3_moveAll_X3_moveDown
theorem dX3_moveAll_0 : decode cX3_moveAll 0 = .ok (.iconst 0, 1) := by decide +kernel
theorem dX3_moveAll_1 : decode cX3_moveAll 1 = .ok (.istore_n 1, 1) := by decide +kernel
theorem dX3_moveAll_2 : decode cX3_moveAll 2 = .ok (.iconst 0, 1) := by decide +kernel
theorem dX3_moveAll_3 : decode cX3_moveAll 3 = .ok (.istore_n 2, 1) := by decide +kernel
theorem dX3_moveAll_4 : decode cX3_moveAll 4 = .ok (.iload_n 2, 1) := by decide +kernel
theorem dX3_moveAll_5 : decode cX3_moveAll 5 = .ok (.bipush 16, 2) := by decide +kernel
theorem dX3_moveAll_7 : decode cX3_moveAll 7 = .ok (.if_icmp .ge 48, 3) := by decide +kernel
theorem dX3_moveAll_10 : decode cX3_moveAll 10 = .ok (.aload_n 0, 1) := by decide +kernel
theorem dX3_moveAll_11 : decode cX3_moveAll 11 = .ok (.getfield 28, 3) := by decide +kernel
theorem dX3_moveAll_14 : decode cX3_moveAll 14 = .ok (.invokevirtual 218, 3) := by decide +kernel
theorem dX3_moveAll_17 : decode cX3_moveAll 17 = .ok (.istore_n 3, 1) := by decide +kernel
theorem dX3_moveAll_18 : decode cX3_moveAll 18 = .ok (.iload_n 3, 1) := by decide +kernel
theorem dX3_moveAll_19 : decode cX3_moveAll 19 = .ok (.iconst (-1), 1) := by decide +kernel
theorem dX3_moveAll_20 : decode cX3_moveAll 20 = .ok (.if_icmp .ne 6, 3) := by decide +kernel
theorem dX3_moveAll_23 : decode cX3_moveAll 23 = .ok (.goto 32, 3) := by decide +kernel
theorem dX3_moveAll_26 : decode cX3_moveAll 26 = .ok (.iload_n 1, 1) := by decide +kernel
theorem dX3_moveAll_27 : decode cX3_moveAll 27 = .ok (.aload_n 0, 1) := by decide +kernel
theorem dX3_moveAll_28 : decode cX3_moveAll 28 = .ok (.getfield 28, 3) := by decide +kernel
theorem dX3_moveAll_31 : decode cX3_moveAll 31 = .ok (.iload_n 3, 1) := by decide +kernel
theorem dX3_moveAll_32 : decode cX3_moveAll 32 = .ok (.iconst 1, 1) := by decide +kernel
theorem dX3_moveAll_33 : decode cX3_moveAll 33 = .ok (.iadd, 1) := by decide +kernel
theorem dX3_moveAll_34 : decode cX3_moveAll 34 = .ok (.invokevirtual 105, 3) := by decide +kernel
theorem dX3_moveAll_37 : decode cX3_moveAll 37 = .ok (.iadd, 1) := by decide +kernel
theorem dX3_moveAll_38 : decode cX3_moveAll 38 = .ok (.istore_n 1, 1) := by decide +kernel
theorem dX3_moveAll_39 : decode cX3_moveAll 39 = .ok (.aload_n 0, 1) := by decide +kernel
theorem dX3_moveAll_40 : decode cX3_moveAll 40 = .ok (.iload_n 3, 1) := by decide +kernel
theorem dX3_moveAll_41 : decode cX3_moveAll 41 = .ok (.invokevirtual 221, 3) := by decide +kernel
theorem dX3_moveAll_44 : decode cX3_moveAll 44 = .ok (.ifCond .ne 5, 3) := by decide +kernel
theorem dX3_moveAll_47 : decode cX3_moveAll 47 = .ok (.iconst (-1), 1) := by decide +kernel
theorem dX3_moveAll_48 : decode cX3_moveAll 48 = .ok (.ireturn, 1) := by decide +kernel
theorem dX3_moveAll_49 : decode cX3_moveAll 49 = .ok (.iinc 2 1, 3) := by decide +kernel
theorem dX3_moveAll_52 : decode cX3_moveAll 52 = .ok (.goto (-48), 3) := by decide +kernel
theorem dX3_moveAll_55 : decode cX3_moveAll 55 = .ok (.aload_n 0, 1) := by decide +kernel
theorem dX3_moveAll_56 : decode cX3_moveAll 56 = .ok (.iconst 0, 1) := by decide +kernel
theorem dX3_moveAll_57 : decode cX3_moveAll 57 = .ok (.putfield 35, 3) := by decide +kernel
theorem dX3_moveAll_60 : decode cX3_moveAll 60 = .ok (.iload_n 1, 1) := by decide +kernel
theorem dX3_moveAll_61 : decode cX3_moveAll 61 = .ok (.ireturn, 1) := by decide +kernel
set_option maxRecDepth 20000 in
theorem ggX3_moveDown_X3_copyDown : GoodIn wsX3_moveDown wsX3_copyDown := goodIn_r _ [6, 7, 8, 9, 10, 11, 1, 12, 13, 14, 15, 16, 17, 18, 19, 20, 21, 22, 23, 24, 25, 26, 27, 28, 29, 30, 31, 32, 33, 34, 35, 5, 36, 37, 38, 39, 40, 41, 42, 43, 44, 45, 46, 47, 48, 49, 50, 51, 52, 53, 54, 55, 111, 112, 113, 114, 115, 116, 117, 118, 119, 120, 121, 122, 123, 124, 125] (by decide +kernel) (by decide +kernel)
set_option maxRecDepth 20000 in
theorem gX3_moveDown_X3_copyDown : GoodIn wsX3_moveDown (wsV RX3 225 RX3 yX3_copyDown wsX3_copyDown) := goodIn_app (goodIn_of _ (by decide +kernel)) ggX3_moveDown_X3_copyDown
set_option maxRecDepth 20000 in
theorem ggX3_moveDown_X3_draftMovedBefore : GoodIn wsX3_moveDown wsX3_draftMovedBefore := goodIn_r _ [59, 60, 7, 61, 62, 63, 19, 64, 21, 65, 66, 67, 68, 69, 70, 71, 72, 73, 23, 24, 25, 26, 27, 28, 74, 30, 31, 32, 22, 75, 76, 77, 78, 79, 80, 81, 82, 83, 84, 85, 86, 87, 88, 89, 53, 54, 55, 29, 90, 91, 92, 93, 94, 95, 96, 97, 111, 112, 113, 114, 115, 116, 117, 118, 119, 120, 121, 122] (by decide +kernel) (by decide +kernel)
set_option maxRecDepth 20000 in
theorem gX3_moveDown_X3_draftMovedBefore : GoodIn wsX3_moveDown (wsV RX3 228 RX3 yX3_draftMovedBefore wsX3_draftMovedBefore) := goodIn_app (goodIn_of _ (by decide +kernel)) ggX3_moveDown_X3_draftMovedBefore
set_option maxRecDepth 20000 in
theorem ggX3_moveDown_X3_change : GoodIn wsX3_moveDown wsX3_change := goodIn_r _ [101, 60, 37, 7, 94, 95, 96, 19, 97, 21, 39, 40, 41, 42, 43, 44, 45, 46, 102, 103, 104, 105, 73, 22, 79, 84, 106, 107, 108, 26, 109, 28, 110, 24, 25, 27, 111, 112, 113, 114, 115, 116, 117, 118, 119, 120, 121, 123, 124, 125, 122] (by decide +kernel) (by decide +kernel)
set_option maxRecDepth 20000 in
theorem gX3_moveDown_X3_change : GoodIn wsX3_moveDown (wsV RX3 87 RX3 yX3_change wsX3_change) := goodIn_app (goodIn_of _ (by decide +kernel)) ggX3_moveDown_X3_change
theorem dX3_moveDown_0 : decode cX3_moveDown 0 = .ok (.aload_n 0, 1) := by decide +kernel
theorem dX3_moveDown_1 : decode cX3_moveDown 1 = .ok (.iload_n 1, 1) := by decide +kernel
theorem dX3_moveDown_2 : decode cX3_moveDown 2 = .ok (.invokevirtual 225, 3) := by decide +kernel
theorem dX3_moveDown_5 : decode cX3_moveDown 5 = .ok (.ifCond .ne 5, 3) := by decide +kernel
theorem dX3_moveDown_8 : decode cX3_moveDown 8 = .ok (.iconst 0, 1) := by decide +kernel
theorem dX3_moveDown_9 : decode cX3_moveDown 9 = .ok (.ireturn, 1) := by decide +kernel
theorem dX3_moveDown_10 : decode cX3_moveDown 10 = .ok (.aload_n 0, 1) := by decide +kernel
theorem dX3_moveDown_11 : decode cX3_moveDown 11 = .ok (.iload_n 1, 1) := by decide +kernel
theorem dX3_moveDown_12 : decode cX3_moveDown 12 = .ok (.invokevirtual 228, 3) := by decide +kernel
theorem dX3_moveDown_15 : decode cX3_moveDown 15 = .ok (.aload_n 0, 1) := by decide +kernel
theorem dX3_moveDown_16 : decode cX3_moveDown 16 = .ok (.invokevirtual 87, 3) := by decide +kernel
theorem dX3_moveDown_19 : decode cX3_moveDown 19 = .ok (.ifCond .ne 5, 3) := by decide +kernel
theorem dX3_moveDown_22 : decode cX3_moveDown 22 = .ok (.iconst 0, 1) := by decide +kernel
theorem dX3_moveDown_23 : decode cX3_moveDown 23 = .ok (.ireturn, 1) := by decide +kernel
theorem dX3_moveDown_24 : decode cX3_moveDown 24 = .ok (.aload_n 0, 1) := by decide +kernel
theorem dX3_moveDown_25 : decode cX3_moveDown 25 = .ok (.iconst (-1), 1) := by decide +kernel
theorem dX3_moveDown_26 : decode cX3_moveDown 26 = .ok (.putfield 39, 3) := by decide +kernel
theorem dX3_moveDown_29 : decode cX3_moveDown 29 = .ok (.iconst 1, 1) := by decide +kernel
theorem dX3_moveDown_30 : decode cX3_moveDown 30 = .ok (.ireturn, 1) := by decide +kernel
set_option maxRecDepth 20000 in
theorem ggX3_copyDown_X0_beginAt : GoodIn wsX3_copyDown wsX0_beginAt := goodIn_r _ [15, 16, 17, 18, 19, 20, 21, 22, 23, 58, 59, 60, 61, 62, 63] (by decide +kernel) (by decide +kernel)
set_option maxRecDepth 20000 in
theorem gX3_copyDown_X0_beginAt : GoodIn wsX3_copyDown (wsV RX3 98 RX0 yX0_beginAt wsX0_beginAt) := goodIn_app (goodIn_of _ (by decide +kernel)) ggX3_copyDown_X0_beginAt
set_option maxRecDepth 20000 in
theorem ggX3_copyDown_X0_lengthAt : GoodIn wsX3_copyDown wsX0_lengthAt := goodIn_r _ [27, 17, 18, 19, 20, 21, 22, 23, 58, 59, 60, 61, 62, 63] (by decide +kernel) (by decide +kernel)
set_option maxRecDepth 20000 in
theorem gX3_copyDown_X0_lengthAt : GoodIn wsX3_copyDown (wsV RX3 105 RX0 yX0_lengthAt wsX0_lengthAt) := goodIn_app (goodIn_of _ (by decide +kernel)) ggX3_copyDown_X0_lengthAt
set_option maxRecDepth 20000 in
theorem ggX3_copyDown_X3_writeLedger : GoodIn wsX3_copyDown wsX3_writeLedger := goodIn_r _ [32, 33, 6, 34, 35, 36, 37, 38, 39, 40, 41, 42, 52, 53, 54, 55, 56, 57, 64, 65, 66] (by decide +kernel) (by decide +kernel)
set_option maxRecDepth 20000 in
theorem gX3_copyDown_X3_writeLedger : GoodIn wsX3_copyDown (wsV RX3 240 RX3 yX3_writeLedger wsX3_writeLedger) := goodIn_app (goodIn_of _ (by decide +kernel)) ggX3_copyDown_X3_writeLedger
set_option maxRecDepth 20000 in
theorem ggX3_copyDown_X2_at : GoodIn wsX3_copyDown wsX2_at := goodIn_r _ [22, 23, 63] (by decide +kernel) (by decide +kernel)
set_option maxRecDepth 20000 in
theorem gX3_copyDown_X2_at : GoodIn wsX3_copyDown (wsV RX3 127 RX2 yX2_at wsX2_at) := goodIn_app (goodIn_of _ (by decide +kernel)) ggX3_copyDown_X2_at
set_option maxRecDepth 20000 in
theorem ggX3_copyDown_X3_writeBlock : GoodIn wsX3_copyDown wsX3_writeBlock := goodIn_r _ [47, 33, 10, 35, 36, 37, 38, 39, 40, 41, 42, 48, 49, 50, 21, 51, 23, 52, 53, 54, 55, 56, 57, 64, 65, 66, 63] (by decide +kernel) (by decide +kernel)
set_option maxRecDepth 20000 in
theorem gX3_copyDown_X3_writeBlock : GoodIn wsX3_copyDown (wsV RX3 101 RX3 yX3_writeBlock wsX3_writeBlock) := goodIn_app (goodIn_of _ (by decide +kernel)) ggX3_copyDown_X3_writeBlock
theorem dX3_copyDown_0 : decode cX3_copyDown 0 = .ok (.aload_n 0, 1) := by decide +kernel
theorem dX3_copyDown_1 : decode cX3_copyDown 1 = .ok (.getfield 28, 3) := by decide +kernel
theorem dX3_copyDown_4 : decode cX3_copyDown 4 = .ok (.iload_n 1, 1) := by decide +kernel
theorem dX3_copyDown_5 : decode cX3_copyDown 5 = .ok (.invokevirtual 98, 3) := by decide +kernel
theorem dX3_copyDown_8 : decode cX3_copyDown 8 = .ok (.istore_n 2, 1) := by decide +kernel
theorem dX3_copyDown_9 : decode cX3_copyDown 9 = .ok (.aload_n 0, 1) := by decide +kernel
theorem dX3_copyDown_10 : decode cX3_copyDown 10 = .ok (.getfield 28, 3) := by decide +kernel
theorem dX3_copyDown_13 : decode cX3_copyDown 13 = .ok (.iload_n 1, 1) := by decide +kernel
theorem dX3_copyDown_14 : decode cX3_copyDown 14 = .ok (.iconst 1, 1) := by decide +kernel
theorem dX3_copyDown_15 : decode cX3_copyDown 15 = .ok (.iadd, 1) := by decide +kernel
theorem dX3_copyDown_16 : decode cX3_copyDown 16 = .ok (.invokevirtual 98, 3) := by decide +kernel
theorem dX3_copyDown_19 : decode cX3_copyDown 19 = .ok (.istore_n 3, 1) := by decide +kernel
theorem dX3_copyDown_20 : decode cX3_copyDown 20 = .ok (.bipush 8, 2) := by decide +kernel
theorem dX3_copyDown_22 : decode cX3_copyDown 22 = .ok (.aload_n 0, 1) := by decide +kernel
theorem dX3_copyDown_23 : decode cX3_copyDown 23 = .ok (.getfield 28, 3) := by decide +kernel
theorem dX3_copyDown_26 : decode cX3_copyDown 26 = .ok (.iload_n 1, 1) := by decide +kernel
theorem dX3_copyDown_27 : decode cX3_copyDown 27 = .ok (.invokevirtual 105, 3) := by decide +kernel
theorem dX3_copyDown_30 : decode cX3_copyDown 30 = .ok (.invokestatic 231, 3) := by decide +kernel
theorem dX3_copyDown_33 : decode cX3_copyDown 33 = .ok (.istore 4, 2) := by decide +kernel
theorem dX3_copyDown_35 : decode cX3_copyDown 35 = .ok (.aload_n 0, 1) := by decide +kernel
theorem dX3_copyDown_36 : decode cX3_copyDown 36 = .ok (.getfield 39, 3) := by decide +kernel
theorem dX3_copyDown_39 : decode cX3_copyDown 39 = .ok (.iconst (-1), 1) := by decide +kernel
theorem dX3_copyDown_40 : decode cX3_copyDown 40 = .ok (.if_icmp .ne 7, 3) := by decide +kernel
theorem dX3_copyDown_43 : decode cX3_copyDown 43 = .ok (.iconst 0, 1) := by decide +kernel
theorem dX3_copyDown_44 : decode cX3_copyDown 44 = .ok (.goto 5, 3) := by decide +kernel
theorem dX3_copyDown_47 : decode cX3_copyDown 47 = .ok (.iload 4, 2) := by decide +kernel
theorem dX3_copyDown_49 : decode cX3_copyDown 49 = .ok (.istore 5, 2) := by decide +kernel
theorem dX3_copyDown_51 : decode cX3_copyDown 51 = .ok (.iconst 0, 1) := by decide +kernel
theorem dX3_copyDown_52 : decode cX3_copyDown 52 = .ok (.aload_n 0, 1) := by decide +kernel
theorem dX3_copyDown_53 : decode cX3_copyDown 53 = .ok (.getfield 39, 3) := by decide +kernel
theorem dX3_copyDown_56 : decode cX3_copyDown 56 = .ok (.invokestatic 237, 3) := by decide +kernel
theorem dX3_copyDown_59 : decode cX3_copyDown 59 = .ok (.istore 6, 2) := by decide +kernel
theorem dX3_copyDown_61 : decode cX3_copyDown 61 = .ok (.iload 6, 2) := by decide +kernel
theorem dX3_copyDown_63 : decode cX3_copyDown 63 = .ok (.aload_n 0, 1) := by decide +kernel
theorem dX3_copyDown_64 : decode cX3_copyDown 64 = .ok (.getfield 28, 3) := by decide +kernel
theorem dX3_copyDown_67 : decode cX3_copyDown 67 = .ok (.iload_n 1, 1) := by decide +kernel
theorem dX3_copyDown_68 : decode cX3_copyDown 68 = .ok (.iconst 1, 1) := by decide +kernel
theorem dX3_copyDown_69 : decode cX3_copyDown 69 = .ok (.iadd, 1) := by decide +kernel
theorem dX3_copyDown_70 : decode cX3_copyDown 70 = .ok (.invokevirtual 105, 3) := by decide +kernel
theorem dX3_copyDown_73 : decode cX3_copyDown 73 = .ok (.if_icmp .ge 56, 3) := by decide +kernel
theorem dX3_copyDown_76 : decode cX3_copyDown 76 = .ok (.iload 5, 2) := by decide +kernel
theorem dX3_copyDown_78 : decode cX3_copyDown 78 = .ok (.ifCond .ne 18, 3) := by decide +kernel
theorem dX3_copyDown_81 : decode cX3_copyDown 81 = .ok (.aload_n 0, 1) := by decide +kernel
theorem dX3_copyDown_82 : decode cX3_copyDown 82 = .ok (.iload 6, 2) := by decide +kernel
theorem dX3_copyDown_84 : decode cX3_copyDown 84 = .ok (.invokevirtual 240, 3) := by decide +kernel
theorem dX3_copyDown_87 : decode cX3_copyDown 87 = .ok (.ifCond .ne 5, 3) := by decide +kernel
theorem dX3_copyDown_90 : decode cX3_copyDown 90 = .ok (.iconst 0, 1) := by decide +kernel
theorem dX3_copyDown_91 : decode cX3_copyDown 91 = .ok (.ireturn, 1) := by decide +kernel
theorem dX3_copyDown_92 : decode cX3_copyDown 92 = .ok (.iload 4, 2) := by decide +kernel
theorem dX3_copyDown_94 : decode cX3_copyDown 94 = .ok (.istore 5, 2) := by decide +kernel
theorem dX3_copyDown_96 : decode cX3_copyDown 96 = .ok (.aload_n 0, 1) := by decide +kernel
theorem dX3_copyDown_97 : decode cX3_copyDown 97 = .ok (.iload_n 2, 1) := by decide +kernel
theorem dX3_copyDown_98 : decode cX3_copyDown 98 = .ok (.iload 6, 2) := by decide +kernel
theorem dX3_copyDown_100 : decode cX3_copyDown 100 = .ok (.iadd, 1) := by decide +kernel
theorem dX3_copyDown_101 : decode cX3_copyDown 101 = .ok (.aload_n 0, 1) := by decide +kernel
theorem dX3_copyDown_102 : decode cX3_copyDown 102 = .ok (.getfield 21, 3) := by decide +kernel
theorem dX3_copyDown_105 : decode cX3_copyDown 105 = .ok (.iload_n 3, 1) := by decide +kernel
theorem dX3_copyDown_106 : decode cX3_copyDown 106 = .ok (.iload 6, 2) := by decide +kernel
theorem dX3_copyDown_108 : decode cX3_copyDown 108 = .ok (.iadd, 1) := by decide +kernel
theorem dX3_copyDown_109 : decode cX3_copyDown 109 = .ok (.invokevirtual 127, 3) := by decide +kernel
theorem dX3_copyDown_112 : decode cX3_copyDown 112 = .ok (.invokevirtual 101, 3) := by decide +kernel
theorem dX3_copyDown_115 : decode cX3_copyDown 115 = .ok (.ifCond .ne 5, 3) := by decide +kernel
theorem dX3_copyDown_118 : decode cX3_copyDown 118 = .ok (.iconst 0, 1) := by decide +kernel
theorem dX3_copyDown_119 : decode cX3_copyDown 119 = .ok (.ireturn, 1) := by decide +kernel
theorem dX3_copyDown_120 : decode cX3_copyDown 120 = .ok (.iinc 5 (-1), 3) := by decide +kernel
theorem dX3_copyDown_123 : decode cX3_copyDown 123 = .ok (.iinc 6 1, 3) := by decide +kernel
theorem dX3_copyDown_126 : decode cX3_copyDown 126 = .ok (.goto (-65), 3) := by decide +kernel
theorem dX3_copyDown_129 : decode cX3_copyDown 129 = .ok (.iconst 1, 1) := by decide +kernel
theorem dX3_copyDown_130 : decode cX3_copyDown 130 = .ok (.ireturn, 1) := by decide +kernel
theorem dJ9_max_7cf53_0 : decode cJ9_max_7cf53 0 = .ok (.iload_n 0, 1) := by decide +kernel
theorem dJ9_max_7cf53_1 : decode cJ9_max_7cf53 1 = .ok (.iload_n 1, 1) := by decide +kernel
theorem dJ9_max_7cf53_2 : decode cJ9_max_7cf53 2 = .ok (.if_icmp .lt 7, 3) := by decide +kernel
theorem dJ9_max_7cf53_5 : decode cJ9_max_7cf53 5 = .ok (.iload_n 0, 1) := by decide +kernel
theorem dJ9_max_7cf53_6 : decode cJ9_max_7cf53 6 = .ok (.goto 4, 3) := by decide +kernel
theorem dJ9_max_7cf53_9 : decode cJ9_max_7cf53 9 = .ok (.iload_n 1, 1) := by decide +kernel
theorem dJ9_max_7cf53_10 : decode cJ9_max_7cf53 10 = .ok (.ireturn, 1) := by decide +kernel
theorem dJ9_min_7cf53_0 : decode cJ9_min_7cf53 0 = .ok (.iload_n 0, 1) := by decide +kernel
theorem dJ9_min_7cf53_1 : decode cJ9_min_7cf53 1 = .ok (.iload_n 1, 1) := by decide +kernel
theorem dJ9_min_7cf53_2 : decode cJ9_min_7cf53 2 = .ok (.if_icmp .gt 7, 3) := by decide +kernel
theorem dJ9_min_7cf53_5 : decode cJ9_min_7cf53 5 = .ok (.iload_n 0, 1) := by decide +kernel
theorem dJ9_min_7cf53_6 : decode cJ9_min_7cf53 6 = .ok (.goto 4, 3) := by decide +kernel
theorem dJ9_min_7cf53_9 : decode cJ9_min_7cf53 9 = .ok (.iload_n 1, 1) := by decide +kernel
theorem dJ9_min_7cf53_10 : decode cJ9_min_7cf53 10 = .ok (.ireturn, 1) := by decide +kernel
set_option maxRecDepth 20000 in
theorem ggL_enters_X3_enter : GoodIn wsL_enters wsX3_enter := goodIn_ca (goodIn_ca (goodIn_ca (goodIn_r _ [8, 9, 10, 11, 12, 13, 14, 15, 16, 17, 18, 7, 19, 20, 21, 22, 23, 24, 25, 26, 27, 28, 29, 30, 31, 32, 33, 34, 35, 36, 37, 38, 39, 40, 41, 42, 43, 44, 45, 46, 47, 48, 49, 50, 51, 52, 53, 54, 55, 56, 57, 58, 59, 60, 61, 62, 63, 64, 65, 66, 67, 68, 69, 70, 71, 72, 73, 74, 75, 76, 77, 78, 79, 80, 81, 82, 83, 84, 85, 86, 87, 88, 89, 90, 91, 92, 93, 94, 95, 96, 97, 98, 99, 100, 101, 102, 103, 104, 105, 106, 107, 108, 109, 110, 111, 112, 113, 114, 115, 116, 117, 118, 119, 120, 121, 122, 123, 124, 125, 126, 127, 128, 129, 130, 131, 132, 133, 134, 135, 136, 137, 138, 139, 140, 141, 142, 143, 144, 145, 146, 147, 148, 149, 150] (by decide +kernel) (by decide +kernel)) (goodIn_sub (fun _ h => List.mem_cons_of_mem _ (List.mem_append_left _ (List.mem_append_left _ (List.mem_append_right _ h)))) (by decide +kernel))) (goodIn_sub (fun _ h => List.mem_cons_of_mem _ (List.mem_append_left _ (List.mem_append_right _ h))) (by decide +kernel))) (goodIn_sub (fun _ h => List.mem_cons_of_mem _ (List.mem_append_right _ h)) (by decide +kernel))
set_option maxRecDepth 20000 in
theorem gL_enters_X3_enter : GoodIn wsL_enters (wsV RL 7 RX3 yX3_enter wsX3_enter) := goodIn_app (goodIn_of _ (by decide +kernel)) ggL_enters_X3_enter
theorem dL_enters_0 : decode cL_enters 0 = .ok (.aload_n 0, 1) := by decide +kernel
theorem dL_enters_1 : decode cL_enters 1 = .ok (.iload_n 1, 1) := by decide +kernel
theorem dL_enters_2 : decode cL_enters 2 = .ok (.iload_n 2, 1) := by decide +kernel
theorem dL_enters_3 : decode cL_enters 3 = .ok (.invokevirtual 7, 3) := by decide +kernel
theorem dL_enters_6 : decode cL_enters 6 = .ok (.ireturn, 1) := by decide +kernel
theorem dL_enters_7 : decode cL_enters 7 = .ok (.astore_n 3, 1) := by decide +kernel
theorem dL_enters_8 : decode cL_enters 8 = .ok (.bipush (-2), 2) := by decide +kernel
theorem dL_enters_10 : decode cL_enters 10 = .ok (.ireturn, 1) := by decide +kernel
theorem dL_enters_11 : decode cL_enters 11 = .ok (.astore_n 3, 1) := by decide +kernel
theorem dL_enters_12 : decode cL_enters 12 = .ok (.bipush (-3), 2) := by decide +kernel
theorem dL_enters_14 : decode cL_enters 14 = .ok (.ireturn, 1) := by decide +kernel
theorem dL_enters_15 : decode cL_enters 15 = .ok (.astore_n 3, 1) := by decide +kernel
theorem dL_enters_16 : decode cL_enters 16 = .ok (.bipush (-4), 2) := by decide +kernel
theorem dL_enters_18 : decode cL_enters 18 = .ok (.ireturn, 1) := by decide +kernel
set_option maxRecDepth 20000 in
theorem ggL_puts_X3_put : GoodIn wsL_puts wsX3_put := goodIn_ca (goodIn_ca (goodIn_ca (goodIn_r _ [8, 9, 10, 11, 12, 7, 13, 14, 15, 16, 17, 18, 19, 20, 21, 22, 23, 24, 25, 26, 27, 28, 29, 30, 31, 32, 33, 34, 35, 36, 37, 38, 39, 40, 41, 42, 43, 44, 45, 46, 47, 48, 49, 50, 51, 52, 53, 54, 55, 56, 57, 58, 59, 60, 61, 62, 63, 64, 65, 66, 67, 68, 69, 70, 71, 72, 73, 74, 75, 76, 77, 78, 79, 80, 81, 82, 83, 84, 85, 86, 87] (by decide +kernel) (by decide +kernel)) (goodIn_sub (fun _ h => List.mem_cons_of_mem _ (List.mem_append_left _ (List.mem_append_left _ (List.mem_append_right _ h)))) (by decide +kernel))) (goodIn_sub (fun _ h => List.mem_cons_of_mem _ (List.mem_append_left _ (List.mem_append_right _ h))) (by decide +kernel))) (goodIn_sub (fun _ h => List.mem_cons_of_mem _ (List.mem_append_right _ h)) (by decide +kernel))
set_option maxRecDepth 20000 in
theorem gL_puts_X3_put : GoodIn wsL_puts (wsV RL 19 RX3 yX3_put wsX3_put) := goodIn_app (goodIn_of _ (by decide +kernel)) ggL_puts_X3_put
theorem dL_puts_0 : decode cL_puts 0 = .ok (.aload_n 0, 1) := by decide +kernel
theorem dL_puts_1 : decode cL_puts 1 = .ok (.iload_n 1, 1) := by decide +kernel
theorem dL_puts_2 : decode cL_puts 2 = .ok (.iload_n 2, 1) := by decide +kernel
theorem dL_puts_3 : decode cL_puts 3 = .ok (.iload_n 3, 1) := by decide +kernel
theorem dL_puts_4 : decode cL_puts 4 = .ok (.invokevirtual 19, 3) := by decide +kernel
theorem dL_puts_7 : decode cL_puts 7 = .ok (.ireturn, 1) := by decide +kernel
theorem dL_puts_8 : decode cL_puts 8 = .ok (.astore 4, 2) := by decide +kernel
theorem dL_puts_10 : decode cL_puts 10 = .ok (.bipush (-2), 2) := by decide +kernel
theorem dL_puts_12 : decode cL_puts 12 = .ok (.ireturn, 1) := by decide +kernel
theorem dL_puts_13 : decode cL_puts 13 = .ok (.astore 4, 2) := by decide +kernel
theorem dL_puts_15 : decode cL_puts 15 = .ok (.bipush (-3), 2) := by decide +kernel
theorem dL_puts_17 : decode cL_puts 17 = .ok (.ireturn, 1) := by decide +kernel
theorem dL_puts_18 : decode cL_puts 18 = .ok (.astore 4, 2) := by decide +kernel
theorem dL_puts_20 : decode cL_puts 20 = .ok (.bipush (-4), 2) := by decide +kernel
theorem dL_puts_22 : decode cL_puts 22 = .ok (.ireturn, 1) := by decide +kernel
set_option maxRecDepth 20000 in
theorem ggL_closes_X3_close : GoodIn wsL_closes wsX3_close := goodIn_ca (goodIn_ca (goodIn_ca (goodIn_ca (goodIn_r _ [9, 10, 11, 12, 13, 14, 15, 16, 8, 17, 18, 19, 20, 21, 22, 23, 24, 25, 26, 27, 28, 29, 30, 31, 32, 33, 34, 35, 36, 37, 38, 39, 40, 41, 42, 43, 44, 45, 46, 47, 48, 49, 50, 51, 52, 53, 54, 55, 56, 57, 58, 59, 60, 61, 62, 63, 64, 65, 66, 67, 68, 69, 70, 71, 72, 73, 74, 75, 76, 77, 78, 79, 80, 81, 82, 83, 84, 85, 86, 87, 88, 89, 90, 91, 92, 93, 94, 95, 96, 97, 98, 99, 100, 101, 102, 103, 104, 105, 106, 107, 108, 109, 110, 111, 112, 113, 114, 115, 116, 117, 118, 119, 120, 121, 122, 123, 124, 125, 126, 127, 128, 129, 130, 131, 132, 133, 134, 135, 136, 137, 138, 139, 140, 141, 142, 143] (by decide +kernel) (by decide +kernel)) (goodIn_sub (fun _ h => List.mem_cons_of_mem _ (List.mem_append_left _ (List.mem_append_left _ (List.mem_append_left _ (List.mem_append_right _ h))))) (by decide +kernel))) (goodIn_sub (fun _ h => List.mem_cons_of_mem _ (List.mem_append_left _ (List.mem_append_left _ (List.mem_append_right _ h)))) (by decide +kernel))) (goodIn_sub (fun _ h => List.mem_cons_of_mem _ (List.mem_append_left _ (List.mem_append_right _ h))) (by decide +kernel))) (goodIn_sub (fun _ h => List.mem_cons_of_mem _ (List.mem_append_right _ h)) (by decide +kernel))
set_option maxRecDepth 20000 in
theorem gL_closes_X3_close : GoodIn wsL_closes (wsV RL 25 RX3 yX3_close wsX3_close) := goodIn_app (goodIn_of _ (by decide +kernel)) ggL_closes_X3_close
theorem dL_closes_0 : decode cL_closes 0 = .ok (.aload_n 0, 1) := by decide +kernel
theorem dL_closes_1 : decode cL_closes 1 = .ok (.iload_n 1, 1) := by decide +kernel
theorem dL_closes_2 : decode cL_closes 2 = .ok (.iload_n 2, 1) := by decide +kernel
theorem dL_closes_3 : decode cL_closes 3 = .ok (.invokevirtual 25, 3) := by decide +kernel
theorem dL_closes_6 : decode cL_closes 6 = .ok (.ireturn, 1) := by decide +kernel
theorem dL_closes_7 : decode cL_closes 7 = .ok (.astore_n 3, 1) := by decide +kernel
theorem dL_closes_8 : decode cL_closes 8 = .ok (.bipush (-2), 2) := by decide +kernel
theorem dL_closes_10 : decode cL_closes 10 = .ok (.ireturn, 1) := by decide +kernel
theorem dL_closes_11 : decode cL_closes 11 = .ok (.astore_n 3, 1) := by decide +kernel
theorem dL_closes_12 : decode cL_closes 12 = .ok (.bipush (-3), 2) := by decide +kernel
theorem dL_closes_14 : decode cL_closes 14 = .ok (.ireturn, 1) := by decide +kernel
theorem dL_closes_15 : decode cL_closes 15 = .ok (.astore_n 3, 1) := by decide +kernel
theorem dL_closes_16 : decode cL_closes 16 = .ok (.bipush (-4), 2) := by decide +kernel
theorem dL_closes_18 : decode cL_closes 18 = .ok (.ireturn, 1) := by decide +kernel
theorem dL_closes_19 : decode cL_closes 19 = .ok (.astore_n 3, 1) := by decide +kernel
theorem dL_closes_20 : decode cL_closes 20 = .ok (.bipush (-5), 2) := by decide +kernel
theorem dL_closes_22 : decode cL_closes 22 = .ok (.ireturn, 1) := by decide +kernel
set_option maxRecDepth 20000 in
theorem ggL_deletes_X3_delete : GoodIn wsL_deletes wsX3_delete := goodIn_ca (goodIn_ca (goodIn_r _ [7, 8, 9, 10, 6, 11, 12, 13, 14, 15, 16, 17, 18, 19, 20, 21, 22, 23, 24, 25, 26, 27, 28, 29, 30, 31, 32, 33, 34, 35, 36, 37, 38, 39, 40, 41, 42, 43, 44, 45, 46, 47, 48, 49, 50, 51, 52, 53, 54, 55, 56, 57, 58, 59, 60, 61, 62, 63, 64, 65, 66, 67, 68, 69, 70, 71, 72, 73, 74, 75, 76, 77, 78, 79, 80, 81, 82, 83, 84, 85, 86, 87, 88, 89, 90, 91, 92, 93, 94, 95, 96, 97, 98, 99, 100, 101, 102, 103, 104, 105, 106, 107, 108, 109, 110, 111, 112, 113, 114, 115, 116, 117, 118, 119, 120, 121, 122, 123, 124, 125, 126, 127, 128] (by decide +kernel) (by decide +kernel)) (goodIn_sub (fun _ h => List.mem_cons_of_mem _ (List.mem_append_left _ (List.mem_append_right _ h))) (by decide +kernel))) (goodIn_sub (fun _ h => List.mem_cons_of_mem _ (List.mem_append_right _ h)) (by decide +kernel))
set_option maxRecDepth 20000 in
theorem gL_deletes_X3_delete : GoodIn wsL_deletes (wsV RL 28 RX3 yX3_delete wsX3_delete) := goodIn_app (goodIn_of _ (by decide +kernel)) ggL_deletes_X3_delete
theorem dL_deletes_0 : decode cL_deletes 0 = .ok (.aload_n 0, 1) := by decide +kernel
theorem dL_deletes_1 : decode cL_deletes 1 = .ok (.iload_n 1, 1) := by decide +kernel
theorem dL_deletes_2 : decode cL_deletes 2 = .ok (.invokevirtual 28, 3) := by decide +kernel
theorem dL_deletes_5 : decode cL_deletes 5 = .ok (.ireturn, 1) := by decide +kernel
theorem dL_deletes_6 : decode cL_deletes 6 = .ok (.astore_n 2, 1) := by decide +kernel
theorem dL_deletes_7 : decode cL_deletes 7 = .ok (.bipush (-2), 2) := by decide +kernel
theorem dL_deletes_9 : decode cL_deletes 9 = .ok (.ireturn, 1) := by decide +kernel
theorem dL_deletes_10 : decode cL_deletes 10 = .ok (.astore_n 2, 1) := by decide +kernel
theorem dL_deletes_11 : decode cL_deletes 11 = .ok (.bipush (-3), 2) := by decide +kernel
theorem dL_deletes_13 : decode cL_deletes 13 = .ok (.ireturn, 1) := by decide +kernel
set_option maxRecDepth 20000 in
theorem ggL_renames_X3_rename : GoodIn wsL_renames wsX3_rename := goodIn_ca (goodIn_ca (goodIn_ca (goodIn_ca (goodIn_r _ [9, 10, 11, 12, 13, 14, 15, 8, 16, 17, 18, 19, 20, 21, 22, 23, 24, 25, 26, 27, 28, 29, 30, 31, 32, 33, 34, 35, 36, 37, 38, 39, 40, 41, 42, 43, 44, 45, 46, 47, 48, 49, 50, 51, 52, 53, 54, 55, 56, 57, 58, 59, 60, 61, 62, 63, 64, 65, 66, 67, 68, 69, 70, 71, 72, 73, 74, 75, 76, 77, 78, 79, 80, 81, 82, 83, 84, 85, 86, 87, 88, 89, 90, 91, 92, 93, 94, 95, 96, 97, 98, 99, 100, 101, 102, 103, 104, 105, 106, 107, 108, 109, 110, 111, 112, 113, 114, 115, 116, 117, 118, 119, 120, 121, 122, 123, 124, 125, 126, 127, 128, 129, 130, 131, 132, 133, 134] (by decide +kernel) (by decide +kernel)) (goodIn_sub (fun _ h => List.mem_cons_of_mem _ (List.mem_append_left _ (List.mem_append_left _ (List.mem_append_left _ (List.mem_append_right _ h))))) (by decide +kernel))) (goodIn_sub (fun _ h => List.mem_cons_of_mem _ (List.mem_append_left _ (List.mem_append_left _ (List.mem_append_right _ h)))) (by decide +kernel))) (goodIn_sub (fun _ h => List.mem_cons_of_mem _ (List.mem_append_left _ (List.mem_append_right _ h))) (by decide +kernel))) (goodIn_sub (fun _ h => List.mem_cons_of_mem _ (List.mem_append_right _ h)) (by decide +kernel))
set_option maxRecDepth 20000 in
theorem gL_renames_X3_rename : GoodIn wsL_renames (wsV RL 32 RX3 yX3_rename wsX3_rename) := goodIn_app (goodIn_of _ (by decide +kernel)) ggL_renames_X3_rename
theorem dL_renames_0 : decode cL_renames 0 = .ok (.aload_n 0, 1) := by decide +kernel
theorem dL_renames_1 : decode cL_renames 1 = .ok (.iload_n 1, 1) := by decide +kernel
theorem dL_renames_2 : decode cL_renames 2 = .ok (.iload_n 2, 1) := by decide +kernel
theorem dL_renames_3 : decode cL_renames 3 = .ok (.invokevirtual 32, 3) := by decide +kernel
theorem dL_renames_6 : decode cL_renames 6 = .ok (.ireturn, 1) := by decide +kernel
theorem dL_renames_7 : decode cL_renames 7 = .ok (.astore_n 3, 1) := by decide +kernel
theorem dL_renames_8 : decode cL_renames 8 = .ok (.bipush (-2), 2) := by decide +kernel
theorem dL_renames_10 : decode cL_renames 10 = .ok (.ireturn, 1) := by decide +kernel
theorem dL_renames_11 : decode cL_renames 11 = .ok (.astore_n 3, 1) := by decide +kernel
theorem dL_renames_12 : decode cL_renames 12 = .ok (.bipush (-3), 2) := by decide +kernel
theorem dL_renames_14 : decode cL_renames 14 = .ok (.ireturn, 1) := by decide +kernel
theorem dL_renames_15 : decode cL_renames 15 = .ok (.astore_n 3, 1) := by decide +kernel
theorem dL_renames_16 : decode cL_renames 16 = .ok (.bipush (-4), 2) := by decide +kernel
theorem dL_renames_18 : decode cL_renames 18 = .ok (.ireturn, 1) := by decide +kernel
theorem dL_renames_19 : decode cL_renames 19 = .ok (.astore_n 3, 1) := by decide +kernel
theorem dL_renames_20 : decode cL_renames 20 = .ok (.bipush (-5), 2) := by decide +kernel
theorem dL_renames_22 : decode cL_renames 22 = .ok (.ireturn, 1) := by decide +kernel
set_option maxRecDepth 20000 in
theorem ggL_reads_X3_read : GoodIn wsL_reads wsX3_read := goodIn_ca (goodIn_ca (goodIn_ca (goodIn_r _ [11, 12, 13, 14, 15, 16, 10, 17, 18, 19, 20, 21, 22, 23, 24, 25, 26, 27, 28, 29, 30, 31, 32, 33, 34, 35, 36, 37, 38, 39, 40, 41, 42, 43, 44, 45, 46, 47, 48, 49, 50, 51, 52, 53, 54, 55, 56, 57, 58, 59, 60, 61, 62, 63, 64, 65, 66, 67, 68, 69, 70, 71, 72, 73, 74, 75, 76, 77] (by decide +kernel) (by decide +kernel)) (goodIn_sub (fun _ h => List.mem_cons_of_mem _ (List.mem_append_left _ (List.mem_append_left _ (List.mem_append_right _ h)))) (by decide +kernel))) (goodIn_sub (fun _ h => List.mem_cons_of_mem _ (List.mem_append_left _ (List.mem_append_right _ h))) (by decide +kernel))) (goodIn_sub (fun _ h => List.mem_cons_of_mem _ (List.mem_append_right _ h)) (by decide +kernel))
set_option maxRecDepth 20000 in
theorem gL_reads_X3_read : GoodIn wsL_reads (wsV RL 35 RX3 yX3_read wsX3_read) := goodIn_app (goodIn_of _ (by decide +kernel)) ggL_reads_X3_read
theorem dL_reads_0 : decode cL_reads 0 = .ok (.aload_n 0, 1) := by decide +kernel
theorem dL_reads_1 : decode cL_reads 1 = .ok (.iload_n 1, 1) := by decide +kernel
theorem dL_reads_2 : decode cL_reads 2 = .ok (.iload_n 2, 1) := by decide +kernel
theorem dL_reads_3 : decode cL_reads 3 = .ok (.invokevirtual 35, 3) := by decide +kernel
theorem dL_reads_6 : decode cL_reads 6 = .ok (.ireturn, 1) := by decide +kernel
theorem dL_reads_7 : decode cL_reads 7 = .ok (.astore_n 3, 1) := by decide +kernel
theorem dL_reads_8 : decode cL_reads 8 = .ok (.ldc 38, 2) := by decide +kernel
theorem dL_reads_10 : decode cL_reads 10 = .ok (.ireturn, 1) := by decide +kernel
theorem dL_reads_11 : decode cL_reads 11 = .ok (.astore_n 3, 1) := by decide +kernel
theorem dL_reads_12 : decode cL_reads 12 = .ok (.ldc 39, 2) := by decide +kernel
theorem dL_reads_14 : decode cL_reads 14 = .ok (.ireturn, 1) := by decide +kernel
theorem dL_reads_15 : decode cL_reads 15 = .ok (.astore_n 3, 1) := by decide +kernel
theorem dL_reads_16 : decode cL_reads 16 = .ok (.ldc 40, 2) := by decide +kernel
theorem dL_reads_18 : decode cL_reads 18 = .ok (.ireturn, 1) := by decide +kernel
set_option maxRecDepth 20000 in
theorem ggL_squeezes_X3_squeeze : GoodIn wsL_squeezes wsX3_squeeze := goodIn_ca (goodIn_r _ [6, 7, 8, 9, 10, 11, 12, 5, 13, 14, 15, 16, 17, 18, 19, 20, 21, 22, 23, 24, 25, 26, 27, 28, 29, 30, 31, 32, 33, 34, 35, 36, 37, 38, 39, 40, 41, 42, 43, 44, 45, 46, 47, 48, 49, 50, 51, 52, 53, 54, 55, 56, 57, 58, 59, 60, 61, 62, 63, 64, 65, 66, 67, 68, 69, 70, 71, 72, 73, 74, 75, 76, 77, 78, 79, 80, 81, 82, 83, 84, 85, 86, 87, 88, 89, 90, 91, 92, 93, 94, 95, 96, 97, 98, 99, 100, 101, 102, 103, 104, 105, 106, 107, 108, 109, 110, 111, 112, 113, 114, 115, 116, 117, 118, 119, 120, 121, 122, 123, 124, 125, 126, 127, 128, 129, 130, 131, 132, 133, 134, 135, 136, 137, 138, 139, 140, 141, 142, 143, 144, 145, 146, 147, 148, 149, 150, 151, 152, 153, 154, 155, 156] (by decide +kernel) (by decide +kernel)) (goodIn_sub (fun _ h => List.mem_cons_of_mem _ (List.mem_append_right _ h)) (by decide +kernel))
set_option maxRecDepth 20000 in
theorem gL_squeezes_X3_squeeze : GoodIn wsL_squeezes (wsV RL 41 RX3 yX3_squeeze wsX3_squeeze) := goodIn_app (goodIn_of _ (by decide +kernel)) ggL_squeezes_X3_squeeze
theorem dL_squeezes_0 : decode cL_squeezes 0 = .ok (.aload_n 0, 1) := by decide +kernel
theorem dL_squeezes_1 : decode cL_squeezes 1 = .ok (.invokevirtual 41, 3) := by decide +kernel
theorem dL_squeezes_4 : decode cL_squeezes 4 = .ok (.ireturn, 1) := by decide +kernel
theorem dL_squeezes_5 : decode cL_squeezes 5 = .ok (.astore_n 1, 1) := by decide +kernel
theorem dL_squeezes_6 : decode cL_squeezes 6 = .ok (.bipush (-2), 2) := by decide +kernel
theorem dL_squeezes_8 : decode cL_squeezes 8 = .ok (.ireturn, 1) := by decide +kernel
set_option maxRecDepth 20000 in
theorem ggL_mounts_X3_mount : GoodIn wsL_mounts wsX3_mount := goodIn_ca (goodIn_r _ [6, 7, 8, 9, 10, 11, 12, 13, 14, 15, 16, 17, 18, 19, 20, 21, 22, 23, 24, 25, 5, 26, 27, 28, 29, 30, 31, 32, 33, 34, 35, 36, 37, 38, 39, 40, 41, 42, 43, 44, 45, 46, 47, 48, 49, 50, 51, 52, 53, 54, 55, 56, 57, 58, 59, 60, 61, 62, 63, 64, 65, 66, 67, 68, 69, 70, 71, 72, 73, 74, 75, 76, 77, 78, 79, 80, 81, 82, 83, 84, 85, 86, 87, 88, 89, 90, 91, 92, 93, 94, 95, 96, 97, 98, 99, 100, 101, 102, 103, 104, 105, 106, 107, 108, 109, 110, 111, 112, 113, 114, 115, 116, 117, 118, 119, 120, 121, 122, 123, 124, 125, 126, 127, 128, 129, 130, 131, 132, 133, 134, 135, 136, 137, 138, 139, 140, 141, 142, 143, 144, 145, 146, 147, 148, 149, 150, 151, 152, 153, 154, 155, 156, 157, 158, 159, 160, 161] (by decide +kernel) (by decide +kernel)) (goodIn_sub (fun _ h => List.mem_cons_of_mem _ (List.mem_append_right _ h)) (by decide +kernel))
set_option maxRecDepth 20000 in
theorem gL_mounts_X3_mount : GoodIn wsL_mounts (wsV RL 45 RX3 yX3_mount wsX3_mount) := goodIn_app (goodIn_of _ (by decide +kernel)) ggL_mounts_X3_mount
theorem dL_mounts_0 : decode cL_mounts 0 = .ok (.aload_n 0, 1) := by decide +kernel
theorem dL_mounts_1 : decode cL_mounts 1 = .ok (.invokevirtual 45, 3) := by decide +kernel
theorem dL_mounts_4 : decode cL_mounts 4 = .ok (.ireturn, 1) := by decide +kernel
theorem dL_mounts_5 : decode cL_mounts 5 = .ok (.astore_n 1, 1) := by decide +kernel
theorem dL_mounts_6 : decode cL_mounts 6 = .ok (.bipush (-2), 2) := by decide +kernel
theorem dL_mounts_8 : decode cL_mounts 8 = .ok (.ireturn, 1) := by decide +kernel
set_option maxRecDepth 20000 in
theorem ggL_cuts_X3_cutAfter : GoodIn wsL_cuts wsX3_cutAfter := goodIn_ca (goodIn_ca (goodIn_r _ [7, 8, 9, 10, 11, 12, 13, 6, 14, 15, 16, 17, 18, 19, 20, 21, 22, 23, 24, 25, 26, 27, 28, 29, 30, 31, 32, 33, 34, 35, 36] (by decide +kernel) (by decide +kernel)) (goodIn_sub (fun _ h => List.mem_cons_of_mem _ (List.mem_append_left _ (List.mem_append_right _ h))) (by decide +kernel))) (goodIn_sub (fun _ h => List.mem_cons_of_mem _ (List.mem_append_right _ h)) (by decide +kernel))
set_option maxRecDepth 20000 in
theorem gL_cuts_X3_cutAfter : GoodIn wsL_cuts (wsV RL 48 RX3 yX3_cutAfter wsX3_cutAfter) := goodIn_app (goodIn_of _ (by decide +kernel)) ggL_cuts_X3_cutAfter
theorem dL_cuts_0 : decode cL_cuts 0 = .ok (.aload_n 0, 1) := by decide +kernel
theorem dL_cuts_1 : decode cL_cuts 1 = .ok (.iload_n 1, 1) := by decide +kernel
theorem dL_cuts_2 : decode cL_cuts 2 = .ok (.invokevirtual 48, 3) := by decide +kernel
theorem dL_cuts_5 : decode cL_cuts 5 = .ok (.goto 11, 3) := by decide +kernel
theorem dL_cuts_8 : decode cL_cuts 8 = .ok (.astore_n 2, 1) := by decide +kernel
theorem dL_cuts_9 : decode cL_cuts 9 = .ok (.bipush (-2), 2) := by decide +kernel
theorem dL_cuts_11 : decode cL_cuts 11 = .ok (.ireturn, 1) := by decide +kernel
theorem dL_cuts_12 : decode cL_cuts 12 = .ok (.astore_n 2, 1) := by decide +kernel
theorem dL_cuts_13 : decode cL_cuts 13 = .ok (.bipush (-3), 2) := by decide +kernel
theorem dL_cuts_15 : decode cL_cuts 15 = .ok (.ireturn, 1) := by decide +kernel
theorem dL_cuts_16 : decode cL_cuts 16 = .ok (.iconst 0, 1) := by decide +kernel
theorem dL_cuts_17 : decode cL_cuts 17 = .ok (.ireturn, 1) := by decide +kernel
set_option maxRecDepth 20000 in
theorem ggL_counts_X3_entries : GoodIn wsL_counts wsX3_entries := goodIn_ca (goodIn_r _ [6, 7, 8, 9, 10, 5, 11, 12, 13, 14, 15, 16, 17, 18, 19, 20, 21, 22, 23, 24, 25, 26, 27, 28, 29, 30, 31, 32, 33, 34, 35, 36, 37, 38, 39, 40] (by decide +kernel) (by decide +kernel)) (goodIn_sub (fun _ h => List.mem_cons_of_mem _ (List.mem_append_right _ h)) (by decide +kernel))
set_option maxRecDepth 20000 in
theorem gL_counts_X3_entries : GoodIn wsL_counts (wsV RL 52 RX3 yX3_entries wsX3_entries) := goodIn_app (goodIn_of _ (by decide +kernel)) ggL_counts_X3_entries
theorem dL_counts_0 : decode cL_counts 0 = .ok (.aload_n 0, 1) := by decide +kernel
theorem dL_counts_1 : decode cL_counts 1 = .ok (.invokevirtual 52, 3) := by decide +kernel
theorem dL_counts_4 : decode cL_counts 4 = .ok (.ireturn, 1) := by decide +kernel
theorem dL_counts_5 : decode cL_counts 5 = .ok (.astore_n 1, 1) := by decide +kernel
theorem dL_counts_6 : decode cL_counts 6 = .ok (.bipush (-2), 2) := by decide +kernel
theorem dL_counts_8 : decode cL_counts 8 = .ok (.ireturn, 1) := by decide +kernel
set_option maxRecDepth 20000 in
theorem ggL_frees_X3_free : GoodIn wsL_frees wsX3_free := goodIn_ca (goodIn_r _ [6, 7, 8, 9, 10, 5, 11, 12, 13, 14, 15, 16, 17, 18, 19, 20, 21, 22, 23, 24, 25, 26, 27, 28, 29, 30, 31, 32, 33, 34, 35, 36, 37, 38, 39, 40, 41, 42, 43, 44, 45, 46, 47, 48, 49, 50, 51, 52, 53, 54, 55, 56, 57] (by decide +kernel) (by decide +kernel)) (goodIn_sub (fun _ h => List.mem_cons_of_mem _ (List.mem_append_right _ h)) (by decide +kernel))
set_option maxRecDepth 20000 in
theorem gL_frees_X3_free : GoodIn wsL_frees (wsV RL 55 RX3 yX3_free wsX3_free) := goodIn_app (goodIn_of _ (by decide +kernel)) ggL_frees_X3_free
theorem dL_frees_0 : decode cL_frees 0 = .ok (.aload_n 0, 1) := by decide +kernel
theorem dL_frees_1 : decode cL_frees 1 = .ok (.iload_n 1, 1) := by decide +kernel
theorem dL_frees_2 : decode cL_frees 2 = .ok (.invokevirtual 55, 3) := by decide +kernel
theorem dL_frees_5 : decode cL_frees 5 = .ok (.ireturn, 1) := by decide +kernel
theorem dL_frees_6 : decode cL_frees 6 = .ok (.astore_n 2, 1) := by decide +kernel
theorem dL_frees_7 : decode cL_frees 7 = .ok (.bipush (-2), 2) := by decide +kernel
theorem dL_frees_9 : decode cL_frees 9 = .ok (.ireturn, 1) := by decide +kernel
set_option maxRecDepth 20000 in
theorem ggL_handles_X3_handle : GoodIn wsL_handles wsX3_handle := goodIn_ca (goodIn_r _ [6, 7, 8, 9, 10, 5, 11, 12, 13, 14, 15, 16, 17, 18, 19, 20, 21, 22, 23, 24, 25, 26, 27, 28, 29, 30, 31, 32, 33, 34, 35, 36, 37, 38, 39, 40, 41, 42, 43, 44, 45, 46, 47, 48, 49, 50, 51, 52, 53, 54] (by decide +kernel) (by decide +kernel)) (goodIn_sub (fun _ h => List.mem_cons_of_mem _ (List.mem_append_right _ h)) (by decide +kernel))
set_option maxRecDepth 20000 in
theorem gL_handles_X3_handle : GoodIn wsL_handles (wsV RL 59 RX3 yX3_handle wsX3_handle) := goodIn_app (goodIn_of _ (by decide +kernel)) ggL_handles_X3_handle
theorem dL_handles_0 : decode cL_handles 0 = .ok (.aload_n 0, 1) := by decide +kernel
theorem dL_handles_1 : decode cL_handles 1 = .ok (.iload_n 1, 1) := by decide +kernel
theorem dL_handles_2 : decode cL_handles 2 = .ok (.invokevirtual 59, 3) := by decide +kernel
theorem dL_handles_5 : decode cL_handles 5 = .ok (.ireturn, 1) := by decide +kernel
theorem dL_handles_6 : decode cL_handles 6 = .ok (.astore_n 2, 1) := by decide +kernel
theorem dL_handles_7 : decode cL_handles 7 = .ok (.bipush (-2), 2) := by decide +kernel
theorem dL_handles_9 : decode cL_handles 9 = .ok (.ireturn, 1) := by decide +kernel
theorem dL_files_0 : decode cL_files 0 = .ok (.iconst 0, 1) := by decide +kernel
theorem dL_files_1 : decode cL_files 1 = .ok (.istore_n 1, 1) := by decide +kernel
theorem dL_files_2 : decode cL_files 2 = .ok (.iconst 1, 1) := by decide +kernel
theorem dL_files_3 : decode cL_files 3 = .ok (.istore_n 2, 1) := by decide +kernel
theorem dL_files_4 : decode cL_files 4 = .ok (.iload_n 2, 1) := by decide +kernel
theorem dL_files_5 : decode cL_files 5 = .ok (.bipush 7, 2) := by decide +kernel
theorem dL_files_7 : decode cL_files 7 = .ok (.if_icmp .ge 23, 3) := by decide +kernel
theorem dL_files_10 : decode cL_files 10 = .ok (.iload_n 1, 1) := by decide +kernel
theorem dL_files_11 : decode cL_files 11 = .ok (.aload_n 0, 1) := by decide +kernel
theorem dL_files_12 : decode cL_files 12 = .ok (.iload_n 2, 1) := by decide +kernel
theorem dL_files_13 : decode cL_files 13 = .ok (.iaload, 1) := by decide +kernel
theorem dL_files_14 : decode cL_files 14 = .ok (.ifCond .le 7, 3) := by decide +kernel
theorem dL_files_17 : decode cL_files 17 = .ok (.iconst 1, 1) := by decide +kernel
theorem dL_files_18 : decode cL_files 18 = .ok (.goto 4, 3) := by decide +kernel
theorem dL_files_21 : decode cL_files 21 = .ok (.iconst 0, 1) := by decide +kernel
theorem dL_files_22 : decode cL_files 22 = .ok (.iadd, 1) := by decide +kernel
theorem dL_files_23 : decode cL_files 23 = .ok (.istore_n 1, 1) := by decide +kernel
theorem dL_files_24 : decode cL_files 24 = .ok (.iinc 2 1, 3) := by decide +kernel
theorem dL_files_27 : decode cL_files 27 = .ok (.goto (-23), 3) := by decide +kernel
theorem dL_files_30 : decode cL_files 30 = .ok (.iload_n 1, 1) := by decide +kernel
theorem dL_files_31 : decode cL_files 31 = .ok (.ireturn, 1) := by decide +kernel
set_option maxRecDepth 20000 in
theorem ggL_mended_X3_isOn : GoodIn wsL_mended wsX3_isOn := goodIn_r _ [5, 6, 7, 8, 9, 10, 11, 12, 158, 159, 160, 161, 162, 163, 164, 165, 166] (by decide +kernel) (by decide +kernel)
set_option maxRecDepth 20000 in
theorem gL_mended_X3_isOn : GoodIn wsL_mended (wsV RL 62 RX3 yX3_isOn wsX3_isOn) := goodIn_app (goodIn_of _ (by decide +kernel)) ggL_mended_X3_isOn
set_option maxRecDepth 20000 in
theorem ggL_mended_L_mounts : GoodIn wsL_mended wsL_mounts := goodIn_ca (goodIn_r _ [16, 17, 18, 19, 20, 4, 21, 22, 23, 6, 24, 25, 7, 8, 9, 10, 11, 12, 26, 27, 28, 29, 30, 31, 32, 33, 34, 35, 36, 37, 38, 39, 40, 41, 42, 43, 44, 45, 46, 47, 48, 49, 50, 51, 52, 53, 54, 55, 56, 57, 58, 59, 60, 61, 62, 63, 64, 65, 66, 67, 68, 69, 70, 71, 72, 73, 74, 75, 76, 77, 78, 79, 80, 81, 82, 83, 84, 85, 86, 87, 88, 89, 90, 91, 92, 93, 94, 95, 96, 97, 98, 99, 100, 101, 102, 103, 104, 105, 106, 107, 108, 109, 110, 111, 112, 113, 114, 115, 116, 117, 118, 119, 120, 121, 122, 123, 124, 125, 126, 127, 128, 129, 130, 131, 132, 133, 134, 135, 136, 137, 138, 139, 140, 141, 142, 143, 144, 145, 146, 147, 148, 149, 150, 151, 152, 153, 154, 158, 159, 160, 161, 162, 163, 164, 165, 166, 167, 168, 169, 170, 171, 172] (by decide +kernel) (by decide +kernel)) (goodIn_sub (fun _ h => List.mem_cons_of_mem _ (List.mem_append_right _ h)) (by decide +kernel))
set_option maxRecDepth 20000 in
theorem gL_mended_L_mounts : GoodIn wsL_mended (va_wsS RL 66 yL_mounts wsL_mounts) := goodIn_app (goodIn_of _ (by decide +kernel)) ggL_mended_L_mounts
set_option maxRecDepth 20000 in
theorem ggL_mended_L_files : GoodIn wsL_mended wsL_files := goodIn_r _ [157] (by decide +kernel) (by decide +kernel)
set_option maxRecDepth 20000 in
theorem gL_mended_L_files : GoodIn wsL_mended (va_wsS RL 72 yL_files wsL_files) := goodIn_app (goodIn_of _ (by decide +kernel)) ggL_mended_L_files
theorem dL_mended_0 : decode cL_mended 0 = .ok (.aload_n 0, 1) := by decide +kernel
theorem dL_mended_1 : decode cL_mended 1 = .ok (.invokevirtual 62, 3) := by decide +kernel
theorem dL_mended_4 : decode cL_mended 4 = .ok (.ifCond .ne 21, 3) := by decide +kernel
theorem dL_mended_7 : decode cL_mended 7 = .ok (.aload_n 0, 1) := by decide +kernel
theorem dL_mended_8 : decode cL_mended 8 = .ok (.invokestatic 66, 3) := by decide +kernel
theorem dL_mended_11 : decode cL_mended 11 = .ok (.aload_n 1, 1) := by decide +kernel
theorem dL_mended_12 : decode cL_mended 12 = .ok (.invokestatic 72, 3) := by decide +kernel
theorem dL_mended_15 : decode cL_mended 15 = .ok (.if_icmp .ne 14, 3) := by decide +kernel
theorem dL_mended_18 : decode cL_mended 18 = .ok (.aload_n 0, 1) := by decide +kernel
theorem dL_mended_19 : decode cL_mended 19 = .ok (.invokevirtual 62, 3) := by decide +kernel
theorem dL_mended_22 : decode cL_mended 22 = .ok (.ifCond .eq 7, 3) := by decide +kernel
theorem dL_mended_25 : decode cL_mended 25 = .ok (.iconst 1, 1) := by decide +kernel
theorem dL_mended_26 : decode cL_mended 26 = .ok (.goto 4, 3) := by decide +kernel
theorem dL_mended_29 : decode cL_mended 29 = .ok (.iconst 0, 1) := by decide +kernel
theorem dL_mended_30 : decode cL_mended 30 = .ok (.ireturn, 1) := by decide +kernel
set_option maxRecDepth 20000 in
theorem ggL_store_L_enters : GoodIn wsL_store wsL_enters := goodIn_ca (goodIn_ca (goodIn_ca (goodIn_r _ [4, 5, 6, 7, 8, 9, 10, 11, 12, 13, 14, 15, 16, 17, 18, 19, 20, 21, 22, 23, 24, 25, 26, 27, 28, 29, 30, 31, 32, 33, 34, 35, 36, 37, 38, 39, 40, 41, 42, 43, 44, 45, 46, 47, 48, 49, 50, 51, 52, 53, 54, 55, 56, 57, 58, 59, 60, 61, 62, 63, 64, 65, 66, 67, 68, 69, 70, 71, 72, 73, 74, 75, 76, 77, 78, 79, 80, 81, 82, 83, 84, 85, 86, 87, 88, 89, 90, 91, 92, 93, 94, 95, 96, 97, 98, 99, 100, 101, 102, 103, 104, 105, 106, 107, 108, 109, 110, 111, 112, 113, 114, 115, 116, 117, 118, 119, 120, 121, 122, 123, 124, 125, 126, 127, 128, 129, 130, 131, 132, 133, 134, 135, 136, 137, 138, 139, 228, 229, 230, 231, 232, 233, 234, 235, 236, 237, 238, 239, 240, 241, 242] (by decide +kernel) (by decide +kernel)) (goodIn_sub (fun _ h => List.mem_cons_of_mem _ (List.mem_append_left _ (List.mem_append_left _ (List.mem_append_left _ (List.mem_append_right _ h))))) (by decide +kernel))) (goodIn_sub (fun _ h => List.mem_cons_of_mem _ (List.mem_append_left _ (List.mem_append_left _ (List.mem_append_right _ h)))) (by decide +kernel))) (goodIn_sub (fun _ h => List.mem_cons_of_mem _ (List.mem_append_left _ (List.mem_append_right _ h))) (by decide +kernel))
set_option maxRecDepth 20000 in
theorem gL_store_L_enters : GoodIn wsL_store (va_wsS RL 76 yL_enters wsL_enters) := goodIn_app (goodIn_of _ (by decide +kernel)) ggL_store_L_enters
set_option maxRecDepth 20000 in
theorem ggL_store_L_frees : GoodIn wsL_store wsL_frees := goodIn_ca (goodIn_r _ [142, 5, 143, 144, 145, 11, 146, 19, 20, 21, 22, 23, 15, 16, 24, 25, 26, 27, 28, 29, 30, 147, 148, 149, 38, 150, 44, 45, 57, 62, 63, 60, 64, 47, 48, 49, 50, 51, 52, 151, 152, 153, 154, 228, 229, 230, 231, 232, 233, 234, 235, 236, 237, 238, 239, 240, 241, 242] (by decide +kernel) (by decide +kernel)) (goodIn_sub (fun _ h => List.mem_cons_of_mem _ (List.mem_append_left _ (List.mem_append_left _ (List.mem_append_right _ h)))) (by decide +kernel))
set_option maxRecDepth 20000 in
theorem gL_store_L_frees : GoodIn wsL_store (va_wsS RL 80 yL_frees wsL_frees) := goodIn_app (goodIn_of _ (by decide +kernel)) ggL_store_L_frees
set_option maxRecDepth 20000 in
theorem ggL_store_L_counts : GoodIn wsL_store wsL_counts := goodIn_ca (goodIn_r _ [157, 5, 158, 159, 160, 11, 161, 19, 20, 21, 22, 23, 15, 16, 24, 25, 26, 27, 28, 29, 30, 113, 114, 115, 38, 116, 44, 228, 229, 230, 231, 232, 233, 234, 235, 236, 237, 238, 239, 240, 241] (by decide +kernel) (by decide +kernel)) (goodIn_sub (fun _ h => List.mem_cons_of_mem _ (List.mem_append_left _ (List.mem_append_left _ (List.mem_append_right _ h)))) (by decide +kernel))
set_option maxRecDepth 20000 in
theorem gL_store_L_counts : GoodIn wsL_store (va_wsS RL 84 yL_counts wsL_counts) := goodIn_app (goodIn_of _ (by decide +kernel)) ggL_store_L_counts
set_option maxRecDepth 20000 in
theorem ggL_store_X3_isOn : GoodIn wsL_store wsX3_isOn := goodIn_r _ [165, 24, 25, 26, 27, 28, 29, 30, 228, 229, 230, 231, 232, 233, 234, 235, 236] (by decide +kernel) (by decide +kernel)
set_option maxRecDepth 20000 in
theorem gL_store_X3_isOn : GoodIn wsL_store (wsV RL 62 RX3 yX3_isOn wsX3_isOn) := goodIn_app (goodIn_of _ (by decide +kernel)) ggL_store_X3_isOn
set_option maxRecDepth 20000 in
theorem ggL_store_L_puts : GoodIn wsL_store wsL_puts := goodIn_ca (goodIn_ca (goodIn_ca (goodIn_r _ [168, 5, 169, 6, 170, 171, 172, 11, 173, 19, 20, 21, 22, 23, 15, 16, 24, 25, 26, 27, 28, 29, 30, 174, 175, 176, 177, 178, 179, 180, 41, 42, 38, 43, 44, 45, 46, 47, 48, 49, 50, 51, 52, 181, 182, 183, 184, 13, 14, 108, 87, 88, 89, 57, 185, 186, 187, 188, 189, 190, 191, 192, 193, 125, 126, 127, 128, 129, 130, 194, 104, 105, 106, 228, 229, 230, 231, 232, 233, 234, 235, 236, 237, 238, 239, 240, 241, 242] (by decide +kernel) (by decide +kernel)) (goodIn_sub (fun _ h => List.mem_cons_of_mem _ (List.mem_append_left _ (List.mem_append_left _ (List.mem_append_right _ h)))) (by decide +kernel))) (goodIn_sub (fun _ h => List.mem_cons_of_mem _ (List.mem_append_right _ h)) (by decide +kernel))) (goodIn_sub (fun _ h => List.mem_cons_of_mem _ (List.mem_append_left _ (List.mem_append_left _ (List.mem_append_left _ (List.mem_append_right _ h))))) (by decide +kernel))
set_option maxRecDepth 20000 in
theorem gL_store_L_puts : GoodIn wsL_store (va_wsS RL 87 yL_puts wsL_puts) := goodIn_app (goodIn_of _ (by decide +kernel)) ggL_store_L_puts
set_option maxRecDepth 20000 in
theorem ggL_store_L_closes : GoodIn wsL_store wsL_closes := goodIn_ca (goodIn_ca (goodIn_ca (goodIn_ca (goodIn_r _ [197, 5, 169, 6, 7, 198, 199, 200, 11, 201, 13, 14, 19, 73, 20, 21, 22, 23, 15, 16, 24, 25, 26, 27, 28, 29, 30, 174, 175, 176, 177, 178, 179, 180, 41, 42, 38, 43, 44, 45, 46, 47, 48, 49, 50, 51, 52, 108, 87, 88, 89, 57, 202, 203, 204, 205, 206, 91, 92, 93, 94, 207, 208, 209, 210, 74, 75, 76, 77, 113, 114, 115, 116, 107, 100, 101, 102, 103, 104, 105, 106, 109, 110, 111, 112, 99, 78, 79, 80, 81, 82, 83, 84, 85, 86, 90, 95, 96, 97, 98, 117, 118, 119, 120, 17, 18, 151, 152, 153, 154, 121, 122, 123, 124, 125, 126, 127, 128, 129, 130, 131, 132, 133, 134, 135, 136, 137, 138, 139, 228, 229, 230, 231, 232, 233, 234, 235, 236, 237, 238, 239, 240, 241, 242] (by decide +kernel) (by decide +kernel)) (goodIn_sub (fun _ h => List.mem_cons_of_mem _ (List.mem_append_left _ (List.mem_append_left _ (List.mem_append_left _ (List.mem_append_right _ h))))) (by decide +kernel))) (goodIn_sub (fun _ h => List.mem_cons_of_mem _ (List.mem_append_left _ (List.mem_append_left _ (List.mem_append_right _ h)))) (by decide +kernel))) (goodIn_sub (fun _ h => List.mem_cons_of_mem _ (List.mem_append_right _ h)) (by decide +kernel))) (goodIn_sub (fun _ h => List.mem_cons_of_mem _ (List.mem_append_left _ (List.mem_append_right _ h))) (by decide +kernel))
set_option maxRecDepth 20000 in
theorem gL_store_L_closes : GoodIn wsL_store (va_wsS RL 91 yL_closes wsL_closes) := goodIn_app (goodIn_of _ (by decide +kernel)) ggL_store_L_closes
set_option maxRecDepth 20000 in
theorem ggL_store_L_purged : GoodIn wsL_store wsL_purged := goodIn_ca (goodIn_ca (goodIn_ca (goodIn_ca (goodIn_r _ [213, 195, 196, 3, 197, 5, 169, 6, 7, 198, 199, 200, 11, 201, 13, 14, 19, 73, 20, 21, 22, 23, 15, 16, 24, 25, 26, 27, 28, 29, 30, 174, 175, 176, 177, 178, 179, 180, 41, 42, 38, 43, 44, 45, 46, 47, 48, 49, 50, 51, 52, 108, 87, 88, 89, 57, 202, 203, 204, 205, 206, 91, 92, 93, 94, 207, 208, 209, 210, 74, 75, 76, 77, 113, 114, 115, 116, 107, 100, 101, 102, 103, 104, 105, 106, 109, 110, 111, 112, 99, 78, 79, 80, 81, 82, 83, 84, 85, 86, 90, 95, 96, 97, 98, 117, 118, 119, 120, 17, 18, 151, 152, 153, 154, 121, 122, 123, 124, 125, 126, 127, 128, 129, 130, 131, 132, 133, 134, 135, 136, 137, 138, 139, 214, 215, 216, 217, 218, 219, 220, 221, 222, 223, 224, 225, 226, 227, 69, 70, 71, 72, 162, 163, 164, 165, 228, 229, 230, 231, 232, 233, 234, 235, 236, 237, 238, 239, 240, 241, 242] (by decide +kernel) (by decide +kernel)) (goodIn_sub (fun _ h => List.mem_cons_of_mem _ (List.mem_append_left _ (List.mem_append_left _ (List.mem_append_left _ (List.mem_append_right _ h))))) (by decide +kernel))) (goodIn_sub (fun _ h => List.mem_cons_of_mem _ (List.mem_append_left _ (List.mem_append_left _ (List.mem_append_right _ h)))) (by decide +kernel))) (goodIn_sub (fun _ h => List.mem_cons_of_mem _ (List.mem_append_right _ h)) (by decide +kernel))) (goodIn_sub (fun _ h => List.mem_cons_of_mem _ (List.mem_append_left _ (List.mem_append_right _ h))) (by decide +kernel))
set_option maxRecDepth 20000 in
theorem gL_store_L_purged : GoodIn wsL_store (va_wsS RL 94 yL_purged wsL_purged) := goodIn_app (goodIn_of _ (by decide +kernel)) ggL_store_L_purged
theorem dL_store_0 : decode cL_store 0 = .ok (.aload_n 1, 1) := by decide +kernel
theorem dL_store_1 : decode cL_store 1 = .ok (.bipush 16, 2) := by decide +kernel
theorem dL_store_3 : decode cL_store 3 = .ok (.iload_n 2, 1) := by decide +kernel
theorem dL_store_4 : decode cL_store 4 = .ok (.iadd, 1) := by decide +kernel
theorem dL_store_5 : decode cL_store 5 = .ok (.dup2, 1) := by decide +kernel
theorem dL_store_6 : decode cL_store 6 = .ok (.iaload, 1) := by decide +kernel
theorem dL_store_7 : decode cL_store 7 = .ok (.iconst 1, 1) := by decide +kernel
theorem dL_store_8 : decode cL_store 8 = .ok (.iadd, 1) := by decide +kernel
theorem dL_store_9 : decode cL_store 9 = .ok (.iastore, 1) := by decide +kernel
theorem dL_store_10 : decode cL_store 10 = .ok (.sipush 10000, 3) := by decide +kernel
theorem dL_store_13 : decode cL_store 13 = .ok (.iload_n 2, 1) := by decide +kernel
theorem dL_store_14 : decode cL_store 14 = .ok (.imul, 1) := by decide +kernel
theorem dL_store_15 : decode cL_store 15 = .ok (.bipush 100, 2) := by decide +kernel
theorem dL_store_17 : decode cL_store 17 = .ok (.aload_n 1, 1) := by decide +kernel
theorem dL_store_18 : decode cL_store 18 = .ok (.bipush 16, 2) := by decide +kernel
theorem dL_store_20 : decode cL_store 20 = .ok (.iload_n 2, 1) := by decide +kernel
theorem dL_store_21 : decode cL_store 21 = .ok (.iadd, 1) := by decide +kernel
theorem dL_store_22 : decode cL_store 22 = .ok (.iaload, 1) := by decide +kernel
theorem dL_store_23 : decode cL_store 23 = .ok (.imul, 1) := by decide +kernel
theorem dL_store_24 : decode cL_store 24 = .ok (.iadd, 1) := by decide +kernel
theorem dL_store_25 : decode cL_store 25 = .ok (.istore 5, 2) := by decide +kernel
theorem dL_store_27 : decode cL_store 27 = .ok (.aload_n 0, 1) := by decide +kernel
theorem dL_store_28 : decode cL_store 28 = .ok (.iload_n 2, 1) := by decide +kernel
theorem dL_store_29 : decode cL_store 29 = .ok (.iload_n 3, 1) := by decide +kernel
theorem dL_store_30 : decode cL_store 30 = .ok (.invokestatic 76, 3) := by decide +kernel
theorem dL_store_33 : decode cL_store 33 = .ok (.istore 6, 2) := by decide +kernel
theorem dL_store_35 : decode cL_store 35 = .ok (.iload 6, 2) := by decide +kernel
theorem dL_store_37 : decode cL_store 37 = .ok (.ifCond .ge 54, 3) := by decide +kernel
theorem dL_store_40 : decode cL_store 40 = .ok (.iload 6, 2) := by decide +kernel
theorem dL_store_42 : decode cL_store 42 = .ok (.bipush (-4), 2) := by decide +kernel
theorem dL_store_44 : decode cL_store 44 = .ok (.if_icmp .ne 12, 3) := by decide +kernel
theorem dL_store_47 : decode cL_store 47 = .ok (.aload_n 0, 1) := by decide +kernel
theorem dL_store_48 : decode cL_store 48 = .ok (.iconst 1, 1) := by decide +kernel
theorem dL_store_49 : decode cL_store 49 = .ok (.invokestatic 80, 3) := by decide +kernel
theorem dL_store_52 : decode cL_store 52 = .ok (.iload_n 3, 1) := by decide +kernel
theorem dL_store_53 : decode cL_store 53 = .ok (.if_icmp .lt 32, 3) := by decide +kernel
theorem dL_store_56 : decode cL_store 56 = .ok (.iload 6, 2) := by decide +kernel
theorem dL_store_58 : decode cL_store 58 = .ok (.bipush (-4), 2) := by decide +kernel
theorem dL_store_60 : decode cL_store 60 = .ok (.if_icmp .ne 12, 3) := by decide +kernel
theorem dL_store_63 : decode cL_store 63 = .ok (.aload_n 0, 1) := by decide +kernel
theorem dL_store_64 : decode cL_store 64 = .ok (.invokestatic 84, 3) := by decide +kernel
theorem dL_store_67 : decode cL_store 67 = .ok (.bipush 16, 2) := by decide +kernel
theorem dL_store_69 : decode cL_store 69 = .ok (.if_icmp .eq 16, 3) := by decide +kernel
theorem dL_store_72 : decode cL_store 72 = .ok (.iload 6, 2) := by decide +kernel
theorem dL_store_74 : decode cL_store 74 = .ok (.iconst (-1), 1) := by decide +kernel
theorem dL_store_75 : decode cL_store 75 = .ok (.if_icmp .ne 14, 3) := by decide +kernel
theorem dL_store_78 : decode cL_store 78 = .ok (.aload_n 0, 1) := by decide +kernel
theorem dL_store_79 : decode cL_store 79 = .ok (.invokevirtual 62, 3) := by decide +kernel
theorem dL_store_82 : decode cL_store 82 = .ok (.ifCond .ne 7, 3) := by decide +kernel
theorem dL_store_85 : decode cL_store 85 = .ok (.iconst 1, 1) := by decide +kernel
theorem dL_store_86 : decode cL_store 86 = .ok (.goto 4, 3) := by decide +kernel
theorem dL_store_89 : decode cL_store 89 = .ok (.iconst 0, 1) := by decide +kernel
theorem dL_store_90 : decode cL_store 90 = .ok (.ireturn, 1) := by decide +kernel
theorem dL_store_91 : decode cL_store 91 = .ok (.iconst 0, 1) := by decide +kernel
theorem dL_store_92 : decode cL_store 92 = .ok (.istore 7, 2) := by decide +kernel
theorem dL_store_94 : decode cL_store 94 = .ok (.iload 7, 2) := by decide +kernel
theorem dL_store_96 : decode cL_store 96 = .ok (.iload_n 3, 1) := by decide +kernel
theorem dL_store_97 : decode cL_store 97 = .ok (.if_icmp .ge 48, 3) := by decide +kernel
theorem dL_store_100 : decode cL_store 100 = .ok (.aload_n 0, 1) := by decide +kernel
theorem dL_store_101 : decode cL_store 101 = .ok (.iload 6, 2) := by decide +kernel
theorem dL_store_103 : decode cL_store 103 = .ok (.iload 7, 2) := by decide +kernel
theorem dL_store_105 : decode cL_store 105 = .ok (.iload 5, 2) := by decide +kernel
theorem dL_store_107 : decode cL_store 107 = .ok (.iload 7, 2) := by decide +kernel
theorem dL_store_109 : decode cL_store 109 = .ok (.iadd, 1) := by decide +kernel
theorem dL_store_110 : decode cL_store 110 = .ok (.invokestatic 87, 3) := by decide +kernel
theorem dL_store_113 : decode cL_store 113 = .ok (.istore 8, 2) := by decide +kernel
theorem dL_store_115 : decode cL_store 115 = .ok (.iload 8, 2) := by decide +kernel
theorem dL_store_117 : decode cL_store 117 = .ok (.ifCond .ge 22, 3) := by decide +kernel
theorem dL_store_120 : decode cL_store 120 = .ok (.iload 8, 2) := by decide +kernel
theorem dL_store_122 : decode cL_store 122 = .ok (.iconst (-1), 1) := by decide +kernel
theorem dL_store_123 : decode cL_store 123 = .ok (.if_icmp .ne 14, 3) := by decide +kernel
theorem dL_store_126 : decode cL_store 126 = .ok (.aload_n 0, 1) := by decide +kernel
theorem dL_store_127 : decode cL_store 127 = .ok (.invokevirtual 62, 3) := by decide +kernel
theorem dL_store_130 : decode cL_store 130 = .ok (.ifCond .ne 7, 3) := by decide +kernel
theorem dL_store_133 : decode cL_store 133 = .ok (.iconst 1, 1) := by decide +kernel
theorem dL_store_134 : decode cL_store 134 = .ok (.goto 4, 3) := by decide +kernel
theorem dL_store_137 : decode cL_store 137 = .ok (.iconst 0, 1) := by decide +kernel
theorem dL_store_138 : decode cL_store 138 = .ok (.ireturn, 1) := by decide +kernel
theorem dL_store_139 : decode cL_store 139 = .ok (.iinc 7 1, 3) := by decide +kernel
theorem dL_store_142 : decode cL_store 142 = .ok (.goto (-48), 3) := by decide +kernel
theorem dL_store_145 : decode cL_store 145 = .ok (.aload_n 1, 1) := by decide +kernel
theorem dL_store_146 : decode cL_store 146 = .ok (.iload_n 2, 1) := by decide +kernel
theorem dL_store_147 : decode cL_store 147 = .ok (.iaload, 1) := by decide +kernel
theorem dL_store_148 : decode cL_store 148 = .ok (.istore 7, 2) := by decide +kernel
theorem dL_store_150 : decode cL_store 150 = .ok (.aload_n 0, 1) := by decide +kernel
theorem dL_store_151 : decode cL_store 151 = .ok (.iload 6, 2) := by decide +kernel
theorem dL_store_153 : decode cL_store 153 = .ok (.iload 4, 2) := by decide +kernel
theorem dL_store_155 : decode cL_store 155 = .ok (.invokestatic 91, 3) := by decide +kernel
theorem dL_store_158 : decode cL_store 158 = .ok (.istore 8, 2) := by decide +kernel
theorem dL_store_160 : decode cL_store 160 = .ok (.iload 8, 2) := by decide +kernel
theorem dL_store_162 : decode cL_store 162 = .ok (.ifCond .lt 34, 3) := by decide +kernel
theorem dL_store_165 : decode cL_store 165 = .ok (.aload_n 1, 1) := by decide +kernel
theorem dL_store_166 : decode cL_store 166 = .ok (.iload_n 2, 1) := by decide +kernel
theorem dL_store_167 : decode cL_store 167 = .ok (.iload 4, 2) := by decide +kernel
theorem dL_store_169 : decode cL_store 169 = .ok (.iastore, 1) := by decide +kernel
theorem dL_store_170 : decode cL_store 170 = .ok (.aload_n 1, 1) := by decide +kernel
theorem dL_store_171 : decode cL_store 171 = .ok (.bipush 8, 2) := by decide +kernel
theorem dL_store_173 : decode cL_store 173 = .ok (.iload_n 2, 1) := by decide +kernel
theorem dL_store_174 : decode cL_store 174 = .ok (.iadd, 1) := by decide +kernel
theorem dL_store_175 : decode cL_store 175 = .ok (.iload 5, 2) := by decide +kernel
theorem dL_store_177 : decode cL_store 177 = .ok (.iastore, 1) := by decide +kernel
theorem dL_store_178 : decode cL_store 178 = .ok (.iload 8, 2) := by decide +kernel
theorem dL_store_180 : decode cL_store 180 = .ok (.iload_n 3, 1) := by decide +kernel
theorem dL_store_181 : decode cL_store 181 = .ok (.iload 4, 2) := by decide +kernel
theorem dL_store_183 : decode cL_store 183 = .ok (.isub, 1) := by decide +kernel
theorem dL_store_184 : decode cL_store 184 = .ok (.iload 7, 2) := by decide +kernel
theorem dL_store_186 : decode cL_store 186 = .ok (.iadd, 1) := by decide +kernel
theorem dL_store_187 : decode cL_store 187 = .ok (.if_icmp .ne 7, 3) := by decide +kernel
theorem dL_store_190 : decode cL_store 190 = .ok (.iconst 1, 1) := by decide +kernel
theorem dL_store_191 : decode cL_store 191 = .ok (.goto 4, 3) := by decide +kernel
theorem dL_store_194 : decode cL_store 194 = .ok (.iconst 0, 1) := by decide +kernel
theorem dL_store_195 : decode cL_store 195 = .ok (.ireturn, 1) := by decide +kernel
theorem dL_store_196 : decode cL_store 196 = .ok (.iload 8, 2) := by decide +kernel
theorem dL_store_198 : decode cL_store 198 = .ok (.iconst (-1), 1) := by decide +kernel
theorem dL_store_199 : decode cL_store 199 = .ok (.if_icmp .ne 10, 3) := by decide +kernel
theorem dL_store_202 : decode cL_store 202 = .ok (.aload_n 0, 1) := by decide +kernel
theorem dL_store_203 : decode cL_store 203 = .ok (.invokevirtual 62, 3) := by decide +kernel
theorem dL_store_206 : decode cL_store 206 = .ok (.ifCond .eq 20, 3) := by decide +kernel
theorem dL_store_209 : decode cL_store 209 = .ok (.iload 8, 2) := by decide +kernel
theorem dL_store_211 : decode cL_store 211 = .ok (.bipush (-5), 2) := by decide +kernel
theorem dL_store_213 : decode cL_store 213 = .ok (.if_icmp .ne 17, 3) := by decide +kernel
theorem dL_store_216 : decode cL_store 216 = .ok (.aload_n 0, 1) := by decide +kernel
theorem dL_store_217 : decode cL_store 217 = .ok (.iload 6, 2) := by decide +kernel
theorem dL_store_219 : decode cL_store 219 = .ok (.iload_n 3, 1) := by decide +kernel
theorem dL_store_220 : decode cL_store 220 = .ok (.invokestatic 94, 3) := by decide +kernel
theorem dL_store_223 : decode cL_store 223 = .ok (.ifCond .eq 7, 3) := by decide +kernel
theorem dL_store_226 : decode cL_store 226 = .ok (.iconst 1, 1) := by decide +kernel
theorem dL_store_227 : decode cL_store 227 = .ok (.goto 4, 3) := by decide +kernel
theorem dL_store_230 : decode cL_store 230 = .ok (.iconst 0, 1) := by decide +kernel
theorem dL_store_231 : decode cL_store 231 = .ok (.ireturn, 1) := by decide +kernel
set_option maxRecDepth 20000 in
theorem ggL_purged_L_closes : GoodIn wsL_purged wsL_closes := goodIn_ca (goodIn_ca (goodIn_ca (goodIn_ca (goodIn_r _ [4, 5, 6, 7, 8, 9, 10, 11, 12, 13, 14, 15, 16, 17, 18, 19, 20, 21, 22, 23, 24, 25, 26, 27, 28, 29, 30, 31, 32, 33, 34, 35, 36, 37, 38, 39, 40, 41, 42, 43, 44, 45, 46, 47, 48, 49, 50, 51, 52, 53, 54, 55, 56, 57, 58, 59, 60, 61, 62, 63, 64, 65, 66, 67, 68, 69, 70, 71, 72, 73, 74, 75, 76, 77, 78, 79, 80, 81, 82, 83, 84, 85, 86, 87, 88, 89, 90, 91, 92, 93, 94, 95, 96, 97, 98, 99, 100, 101, 102, 103, 104, 105, 106, 107, 108, 109, 110, 111, 112, 113, 114, 115, 116, 117, 118, 119, 120, 121, 122, 123, 124, 125, 126, 127, 128, 129, 130, 131, 132, 155, 156, 157, 158, 159, 160, 161, 162, 163, 164, 165, 166, 167, 168, 169] (by decide +kernel) (by decide +kernel)) (goodIn_sub (fun _ h => List.mem_cons_of_mem _ (List.mem_append_left _ (List.mem_append_left _ (List.mem_append_left _ (List.mem_append_right _ h))))) (by decide +kernel))) (goodIn_sub (fun _ h => List.mem_cons_of_mem _ (List.mem_append_left _ (List.mem_append_left _ (List.mem_append_right _ h)))) (by decide +kernel))) (goodIn_sub (fun _ h => List.mem_cons_of_mem _ (List.mem_append_left _ (List.mem_append_right _ h))) (by decide +kernel))) (goodIn_sub (fun _ h => List.mem_cons_of_mem _ (List.mem_append_right _ h)) (by decide +kernel))
set_option maxRecDepth 20000 in
theorem gL_purged_L_closes : GoodIn wsL_purged (va_wsS RL 91 yL_closes wsL_closes) := goodIn_app (goodIn_of _ (by decide +kernel)) ggL_purged_L_closes
set_option maxRecDepth 20000 in
theorem ggL_purged_L_undone : GoodIn wsL_purged wsL_undone := goodIn_ca (goodIn_ca (goodIn_r _ [135, 136, 137, 3, 138, 5, 6, 139, 140, 141, 12, 142, 18, 19, 20, 21, 22, 23, 24, 25, 26, 27, 28, 29, 30, 31, 32, 33, 34, 35, 36, 16, 37, 38, 39, 40, 41, 42, 43, 44, 45, 46, 47, 48, 49, 50, 143, 144, 145, 146, 51, 52, 53, 54, 55, 147, 148, 149, 150, 17, 69, 70, 71, 72, 90, 91, 92, 93, 94, 95, 96, 97, 98, 99, 61, 62, 63, 64, 100, 101, 102, 103, 89, 78, 79, 80, 81, 82, 83, 84, 77, 85, 86, 87, 88, 73, 74, 75, 76, 114, 115, 116, 117, 118, 119, 120, 121, 122, 123, 124, 125, 126, 127, 128, 129, 130, 131, 132, 151, 152, 153, 154, 155, 156, 157, 158, 159, 160, 161, 162, 163, 164, 165, 166, 167, 168, 169] (by decide +kernel) (by decide +kernel)) (goodIn_sub (fun _ h => List.mem_cons_of_mem _ (List.mem_append_left _ (List.mem_append_left _ (List.mem_append_right _ h)))) (by decide +kernel))) (goodIn_sub (fun _ h => List.mem_cons_of_mem _ (List.mem_append_left _ (List.mem_append_right _ h))) (by decide +kernel))
set_option maxRecDepth 20000 in
theorem gL_purged_L_undone : GoodIn wsL_purged (va_wsS RL 98 yL_undone wsL_undone) := goodIn_app (goodIn_of _ (by decide +kernel)) ggL_purged_L_undone
theorem dL_purged_0 : decode cL_purged 0 = .ok (.aload_n 0, 1) := by decide +kernel
theorem dL_purged_1 : decode cL_purged 1 = .ok (.iload_n 1, 1) := by decide +kernel
theorem dL_purged_2 : decode cL_purged 2 = .ok (.iload_n 2, 1) := by decide +kernel
theorem dL_purged_3 : decode cL_purged 3 = .ok (.iconst 1, 1) := by decide +kernel
theorem dL_purged_4 : decode cL_purged 4 = .ok (.iadd, 1) := by decide +kernel
theorem dL_purged_5 : decode cL_purged 5 = .ok (.invokestatic 91, 3) := by decide +kernel
theorem dL_purged_8 : decode cL_purged 8 = .ok (.istore_n 3, 1) := by decide +kernel
theorem dL_purged_9 : decode cL_purged 9 = .ok (.iload_n 3, 1) := by decide +kernel
theorem dL_purged_10 : decode cL_purged 10 = .ok (.bipush (-4), 2) := by decide +kernel
theorem dL_purged_12 : decode cL_purged 12 = .ok (.if_icmp .ne 16, 3) := by decide +kernel
theorem dL_purged_15 : decode cL_purged 15 = .ok (.aload_n 0, 1) := by decide +kernel
theorem dL_purged_16 : decode cL_purged 16 = .ok (.iload_n 1, 1) := by decide +kernel
theorem dL_purged_17 : decode cL_purged 17 = .ok (.iload_n 2, 1) := by decide +kernel
theorem dL_purged_18 : decode cL_purged 18 = .ok (.invokestatic 98, 3) := by decide +kernel
theorem dL_purged_21 : decode cL_purged 21 = .ok (.ifCond .eq 7, 3) := by decide +kernel
theorem dL_purged_24 : decode cL_purged 24 = .ok (.iconst 1, 1) := by decide +kernel
theorem dL_purged_25 : decode cL_purged 25 = .ok (.goto 4, 3) := by decide +kernel
theorem dL_purged_28 : decode cL_purged 28 = .ok (.iconst 0, 1) := by decide +kernel
theorem dL_purged_29 : decode cL_purged 29 = .ok (.ireturn, 1) := by decide +kernel
set_option maxRecDepth 20000 in
theorem ggL_undone_L_purges : GoodIn wsL_undone wsL_purges := goodIn_ca (goodIn_ca (goodIn_r _ [4, 5, 6, 7, 8, 9, 10, 11, 12, 13, 14, 15, 16, 17, 18, 19, 20, 21, 22, 23, 24, 25, 26, 27, 28, 29, 30, 31, 32, 33, 34, 35, 36, 37, 38, 39, 40, 41, 42, 43, 44, 45, 46, 47, 48, 49, 50, 51, 52, 53, 54, 55, 56, 57, 58, 59, 60, 61, 62, 63, 64, 65, 66, 67, 68, 69, 70, 71, 72, 73, 74, 75, 76, 77, 78, 79, 80, 81, 82, 83, 84, 85, 86, 87, 88, 89, 90, 91, 92, 93, 94, 95, 96, 97, 98, 99, 100, 101, 102, 103, 104, 105, 106, 107, 108, 109, 110, 111, 112, 113, 114, 115, 116, 117, 122, 123, 124, 125, 126, 127, 128, 129, 130, 131, 132, 133, 134, 135, 136] (by decide +kernel) (by decide +kernel)) (goodIn_sub (fun _ h => List.mem_cons_of_mem _ (List.mem_append_left _ (List.mem_append_right _ h))) (by decide +kernel))) (goodIn_sub (fun _ h => List.mem_cons_of_mem _ (List.mem_append_right _ h)) (by decide +kernel))
set_option maxRecDepth 20000 in
theorem gL_undone_L_purges : GoodIn wsL_undone (va_wsS RL 101 yL_purges wsL_purges) := goodIn_app (goodIn_of _ (by decide +kernel)) ggL_undone_L_purges
set_option maxRecDepth 20000 in
theorem ggL_undone_X3_isOn : GoodIn wsL_undone wsX3_isOn := goodIn_r _ [121, 18, 19, 20, 21, 22, 23, 24, 122, 123, 124, 125, 126, 127, 128, 129, 130] (by decide +kernel) (by decide +kernel)
set_option maxRecDepth 20000 in
theorem gL_undone_X3_isOn : GoodIn wsL_undone (wsV RL 62 RX3 yX3_isOn wsX3_isOn) := goodIn_app (goodIn_of _ (by decide +kernel)) ggL_undone_X3_isOn
theorem dL_undone_0 : decode cL_undone 0 = .ok (.aload_n 0, 1) := by decide +kernel
theorem dL_undone_1 : decode cL_undone 1 = .ok (.iload_n 1, 1) := by decide +kernel
theorem dL_undone_2 : decode cL_undone 2 = .ok (.invokestatic 101, 3) := by decide +kernel
theorem dL_undone_5 : decode cL_undone 5 = .ok (.istore_n 3, 1) := by decide +kernel
theorem dL_undone_6 : decode cL_undone 6 = .ok (.iload_n 3, 1) := by decide +kernel
theorem dL_undone_7 : decode cL_undone 7 = .ok (.iload_n 2, 1) := by decide +kernel
theorem dL_undone_8 : decode cL_undone 8 = .ok (.if_icmp .eq 15, 3) := by decide +kernel
theorem dL_undone_11 : decode cL_undone 11 = .ok (.iload_n 3, 1) := by decide +kernel
theorem dL_undone_12 : decode cL_undone 12 = .ok (.iconst (-1), 1) := by decide +kernel
theorem dL_undone_13 : decode cL_undone 13 = .ok (.if_icmp .ne 14, 3) := by decide +kernel
theorem dL_undone_16 : decode cL_undone 16 = .ok (.aload_n 0, 1) := by decide +kernel
theorem dL_undone_17 : decode cL_undone 17 = .ok (.invokevirtual 62, 3) := by decide +kernel
theorem dL_undone_20 : decode cL_undone 20 = .ok (.ifCond .ne 7, 3) := by decide +kernel
theorem dL_undone_23 : decode cL_undone 23 = .ok (.iconst 1, 1) := by decide +kernel
theorem dL_undone_24 : decode cL_undone 24 = .ok (.goto 4, 3) := by decide +kernel
theorem dL_undone_27 : decode cL_undone 27 = .ok (.iconst 0, 1) := by decide +kernel
theorem dL_undone_28 : decode cL_undone 28 = .ok (.ireturn, 1) := by decide +kernel
set_option maxRecDepth 20000 in
theorem ggL_purges_X3_purge : GoodIn wsL_purges wsX3_purge := goodIn_ca (goodIn_ca (goodIn_r _ [7, 8, 9, 10, 6, 11, 12, 13, 14, 15, 16, 17, 18, 19, 20, 21, 22, 23, 24, 25, 26, 27, 28, 29, 30, 31, 32, 33, 34, 35, 36, 37, 38, 39, 40, 41, 42, 43, 44, 45, 46, 47, 48, 49, 50, 51, 52, 53, 54, 55, 56, 57, 58, 59, 60, 61, 62, 63, 64, 65, 66, 67, 68, 69, 70, 71, 72, 73, 74, 75, 76, 77, 78, 79, 80, 81, 82, 83, 84, 85, 86, 87, 88, 89, 90, 91, 92, 93, 94, 95, 96, 97, 98, 99, 100, 101, 102, 103, 104, 105, 106, 107, 108, 109, 110, 111, 112, 113, 114, 115, 116, 117, 118, 119, 120, 121, 122, 123, 124, 125, 126, 127, 128] (by decide +kernel) (by decide +kernel)) (goodIn_sub (fun _ h => List.mem_cons_of_mem _ (List.mem_append_left _ (List.mem_append_right _ h))) (by decide +kernel))) (goodIn_sub (fun _ h => List.mem_cons_of_mem _ (List.mem_append_right _ h)) (by decide +kernel))
set_option maxRecDepth 20000 in
theorem gL_purges_X3_purge : GoodIn wsL_purges (wsV RL 105 RX3 yX3_purge wsX3_purge) := goodIn_app (goodIn_of _ (by decide +kernel)) ggL_purges_X3_purge
theorem dL_purges_0 : decode cL_purges 0 = .ok (.aload_n 0, 1) := by decide +kernel
theorem dL_purges_1 : decode cL_purges 1 = .ok (.iload_n 1, 1) := by decide +kernel
theorem dL_purges_2 : decode cL_purges 2 = .ok (.invokevirtual 105, 3) := by decide +kernel
theorem dL_purges_5 : decode cL_purges 5 = .ok (.ireturn, 1) := by decide +kernel
theorem dL_purges_6 : decode cL_purges 6 = .ok (.astore_n 2, 1) := by decide +kernel
theorem dL_purges_7 : decode cL_purges 7 = .ok (.bipush (-2), 2) := by decide +kernel
theorem dL_purges_9 : decode cL_purges 9 = .ok (.ireturn, 1) := by decide +kernel
theorem dL_purges_10 : decode cL_purges 10 = .ok (.astore_n 2, 1) := by decide +kernel
theorem dL_purges_11 : decode cL_purges 11 = .ok (.bipush (-3), 2) := by decide +kernel
theorem dL_purges_13 : decode cL_purges 13 = .ok (.ireturn, 1) := by decide +kernel
set_option maxRecDepth 20000 in
theorem ggL_remove_L_deletes : GoodIn wsL_remove wsL_deletes := goodIn_ca (goodIn_ca (goodIn_r _ [4, 5, 6, 7, 8, 9, 10, 11, 12, 13, 14, 15, 16, 17, 18, 19, 20, 21, 22, 23, 24, 25, 26, 27, 28, 29, 30, 31, 32, 33, 34, 35, 36, 37, 38, 39, 40, 41, 42, 43, 44, 45, 46, 47, 48, 49, 50, 51, 52, 53, 54, 55, 56, 57, 58, 59, 60, 61, 62, 63, 64, 65, 66, 67, 68, 69, 70, 71, 72, 73, 74, 75, 76, 77, 78, 79, 80, 81, 82, 83, 84, 85, 86, 87, 88, 89, 90, 91, 92, 93, 94, 95, 96, 97, 98, 99, 100, 101, 102, 103, 104, 105, 106, 107, 108, 109, 110, 111, 112, 113, 114, 115, 116, 117, 122, 123, 124, 125, 126, 127, 128, 129, 130, 131, 132, 133, 134, 135, 136] (by decide +kernel) (by decide +kernel)) (goodIn_sub (fun _ h => List.mem_cons_of_mem _ (List.mem_append_left _ (List.mem_append_right _ h))) (by decide +kernel))) (goodIn_sub (fun _ h => List.mem_cons_of_mem _ (List.mem_append_right _ h)) (by decide +kernel))
set_option maxRecDepth 20000 in
theorem gL_remove_L_deletes : GoodIn wsL_remove (va_wsS RL 108 yL_deletes wsL_deletes) := goodIn_app (goodIn_of _ (by decide +kernel)) ggL_remove_L_deletes
set_option maxRecDepth 20000 in
theorem ggL_remove_X3_isOn : GoodIn wsL_remove wsX3_isOn := goodIn_r _ [121, 18, 19, 20, 21, 22, 23, 24, 122, 123, 124, 125, 126, 127, 128, 129, 130] (by decide +kernel) (by decide +kernel)
set_option maxRecDepth 20000 in
theorem gL_remove_X3_isOn : GoodIn wsL_remove (wsV RL 62 RX3 yX3_isOn wsX3_isOn) := goodIn_app (goodIn_of _ (by decide +kernel)) ggL_remove_X3_isOn
theorem dL_remove_0 : decode cL_remove 0 = .ok (.aload_n 0, 1) := by decide +kernel
theorem dL_remove_1 : decode cL_remove 1 = .ok (.iload_n 2, 1) := by decide +kernel
theorem dL_remove_2 : decode cL_remove 2 = .ok (.invokestatic 108, 3) := by decide +kernel
theorem dL_remove_5 : decode cL_remove 5 = .ok (.istore_n 3, 1) := by decide +kernel
theorem dL_remove_6 : decode cL_remove 6 = .ok (.iload_n 3, 1) := by decide +kernel
theorem dL_remove_7 : decode cL_remove 7 = .ok (.iconst (-1), 1) := by decide +kernel
theorem dL_remove_8 : decode cL_remove 8 = .ok (.if_icmp .ne 22, 3) := by decide +kernel
theorem dL_remove_11 : decode cL_remove 11 = .ok (.aload_n 0, 1) := by decide +kernel
theorem dL_remove_12 : decode cL_remove 12 = .ok (.invokevirtual 62, 3) := by decide +kernel
theorem dL_remove_15 : decode cL_remove 15 = .ok (.ifCond .ne 13, 3) := by decide +kernel
theorem dL_remove_18 : decode cL_remove 18 = .ok (.aload_n 1, 1) := by decide +kernel
theorem dL_remove_19 : decode cL_remove 19 = .ok (.iload_n 2, 1) := by decide +kernel
theorem dL_remove_20 : decode cL_remove 20 = .ok (.iaload, 1) := by decide +kernel
theorem dL_remove_21 : decode cL_remove 21 = .ok (.ifCond .le 7, 3) := by decide +kernel
theorem dL_remove_24 : decode cL_remove 24 = .ok (.iconst 1, 1) := by decide +kernel
theorem dL_remove_25 : decode cL_remove 25 = .ok (.goto 4, 3) := by decide +kernel
theorem dL_remove_28 : decode cL_remove 28 = .ok (.iconst 0, 1) := by decide +kernel
theorem dL_remove_29 : decode cL_remove 29 = .ok (.ireturn, 1) := by decide +kernel
theorem dL_remove_30 : decode cL_remove 30 = .ok (.iload_n 3, 1) := by decide +kernel
theorem dL_remove_31 : decode cL_remove 31 = .ok (.aload_n 1, 1) := by decide +kernel
theorem dL_remove_32 : decode cL_remove 32 = .ok (.iload_n 2, 1) := by decide +kernel
theorem dL_remove_33 : decode cL_remove 33 = .ok (.iaload, 1) := by decide +kernel
theorem dL_remove_34 : decode cL_remove 34 = .ok (.ifCond .le 9, 3) := by decide +kernel
theorem dL_remove_37 : decode cL_remove 37 = .ok (.aload_n 1, 1) := by decide +kernel
theorem dL_remove_38 : decode cL_remove 38 = .ok (.iload_n 2, 1) := by decide +kernel
theorem dL_remove_39 : decode cL_remove 39 = .ok (.iaload, 1) := by decide +kernel
theorem dL_remove_40 : decode cL_remove 40 = .ok (.goto 5, 3) := by decide +kernel
theorem dL_remove_43 : decode cL_remove 43 = .ok (.bipush (-3), 2) := by decide +kernel
theorem dL_remove_45 : decode cL_remove 45 = .ok (.if_icmp .ne 7, 3) := by decide +kernel
theorem dL_remove_48 : decode cL_remove 48 = .ok (.iconst 1, 1) := by decide +kernel
theorem dL_remove_49 : decode cL_remove 49 = .ok (.goto 4, 3) := by decide +kernel
theorem dL_remove_52 : decode cL_remove 52 = .ok (.iconst 0, 1) := by decide +kernel
theorem dL_remove_53 : decode cL_remove 53 = .ok (.istore 4, 2) := by decide +kernel
theorem dL_remove_55 : decode cL_remove 55 = .ok (.aload_n 1, 1) := by decide +kernel
theorem dL_remove_56 : decode cL_remove 56 = .ok (.iload_n 2, 1) := by decide +kernel
theorem dL_remove_57 : decode cL_remove 57 = .ok (.iconst 0, 1) := by decide +kernel
theorem dL_remove_58 : decode cL_remove 58 = .ok (.iastore, 1) := by decide +kernel
theorem dL_remove_59 : decode cL_remove 59 = .ok (.iload 4, 2) := by decide +kernel
theorem dL_remove_61 : decode cL_remove 61 = .ok (.ireturn, 1) := by decide +kernel
set_option maxRecDepth 20000 in
theorem ggL_call_L_renames : GoodIn wsL_call wsL_renames := goodIn_ca (goodIn_ca (goodIn_ca (goodIn_ca (goodIn_r _ [4, 5, 6, 7, 8, 9, 10, 11, 12, 13, 14, 15, 16, 17, 18, 19, 20, 21, 22, 23, 24, 25, 26, 27, 28, 29, 30, 31, 32, 33, 34, 35, 36, 37, 38, 39, 40, 41, 42, 43, 44, 45, 46, 47, 48, 49, 50, 51, 52, 53, 54, 55, 56, 57, 58, 59, 60, 61, 62, 63, 64, 65, 66, 67, 68, 69, 70, 71, 72, 73, 74, 75, 76, 77, 78, 79, 80, 81, 82, 83, 84, 85, 86, 87, 88, 89, 90, 91, 92, 93, 94, 95, 96, 97, 98, 99, 100, 101, 102, 103, 104, 105, 106, 107, 108, 109, 110, 111, 112, 113, 114, 115, 116, 117, 118, 119, 120, 121, 122, 123, 128, 129, 130, 131, 132, 133, 134, 135, 136, 137, 138, 139, 140, 141, 142] (by decide +kernel) (by decide +kernel)) (goodIn_sub (fun _ h => List.mem_cons_of_mem _ (List.mem_append_left _ (List.mem_append_left _ (List.mem_append_left _ (List.mem_append_right _ h))))) (by decide +kernel))) (goodIn_sub (fun _ h => List.mem_cons_of_mem _ (List.mem_append_left _ (List.mem_append_left _ (List.mem_append_right _ h)))) (by decide +kernel))) (goodIn_sub (fun _ h => List.mem_cons_of_mem _ (List.mem_append_left _ (List.mem_append_right _ h))) (by decide +kernel))) (goodIn_sub (fun _ h => List.mem_cons_of_mem _ (List.mem_append_right _ h)) (by decide +kernel))
set_option maxRecDepth 20000 in
theorem gL_call_L_renames : GoodIn wsL_call (va_wsS RL 111 yL_renames wsL_renames) := goodIn_app (goodIn_of _ (by decide +kernel)) ggL_call_L_renames
set_option maxRecDepth 20000 in
theorem ggL_call_X3_isOn : GoodIn wsL_call wsX3_isOn := goodIn_r _ [127, 23, 24, 25, 26, 27, 28, 29, 128, 129, 130, 131, 132, 133, 134, 135, 136] (by decide +kernel) (by decide +kernel)
set_option maxRecDepth 20000 in
theorem gL_call_X3_isOn : GoodIn wsL_call (wsV RL 62 RX3 yX3_isOn wsX3_isOn) := goodIn_app (goodIn_of _ (by decide +kernel)) ggL_call_X3_isOn
theorem dL_call_0 : decode cL_call 0 = .ok (.aload_n 0, 1) := by decide +kernel
theorem dL_call_1 : decode cL_call 1 = .ok (.iload_n 2, 1) := by decide +kernel
theorem dL_call_2 : decode cL_call 2 = .ok (.iload_n 3, 1) := by decide +kernel
theorem dL_call_3 : decode cL_call 3 = .ok (.invokestatic 111, 3) := by decide +kernel
theorem dL_call_6 : decode cL_call 6 = .ok (.istore 4, 2) := by decide +kernel
theorem dL_call_8 : decode cL_call 8 = .ok (.iload 4, 2) := by decide +kernel
theorem dL_call_10 : decode cL_call 10 = .ok (.iconst (-1), 1) := by decide +kernel
theorem dL_call_11 : decode cL_call 11 = .ok (.if_icmp .ne 22, 3) := by decide +kernel
theorem dL_call_14 : decode cL_call 14 = .ok (.aload_n 0, 1) := by decide +kernel
theorem dL_call_15 : decode cL_call 15 = .ok (.invokevirtual 62, 3) := by decide +kernel
theorem dL_call_18 : decode cL_call 18 = .ok (.ifCond .ne 13, 3) := by decide +kernel
theorem dL_call_21 : decode cL_call 21 = .ok (.aload_n 1, 1) := by decide +kernel
theorem dL_call_22 : decode cL_call 22 = .ok (.iload_n 2, 1) := by decide +kernel
theorem dL_call_23 : decode cL_call 23 = .ok (.iaload, 1) := by decide +kernel
theorem dL_call_24 : decode cL_call 24 = .ok (.ifCond .le 7, 3) := by decide +kernel
theorem dL_call_27 : decode cL_call 27 = .ok (.iconst 1, 1) := by decide +kernel
theorem dL_call_28 : decode cL_call 28 = .ok (.goto 4, 3) := by decide +kernel
theorem dL_call_31 : decode cL_call 31 = .ok (.iconst 0, 1) := by decide +kernel
theorem dL_call_32 : decode cL_call 32 = .ok (.ireturn, 1) := by decide +kernel
theorem dL_call_33 : decode cL_call 33 = .ok (.iload 4, 2) := by decide +kernel
theorem dL_call_35 : decode cL_call 35 = .ok (.aload_n 1, 1) := by decide +kernel
theorem dL_call_36 : decode cL_call 36 = .ok (.iload_n 2, 1) := by decide +kernel
theorem dL_call_37 : decode cL_call 37 = .ok (.iaload, 1) := by decide +kernel
theorem dL_call_38 : decode cL_call 38 = .ok (.ifCond .ne 8, 3) := by decide +kernel
theorem dL_call_41 : decode cL_call 41 = .ok (.bipush (-4), 2) := by decide +kernel
theorem dL_call_43 : decode cL_call 43 = .ok (.goto 15, 3) := by decide +kernel
theorem dL_call_46 : decode cL_call 46 = .ok (.aload_n 1, 1) := by decide +kernel
theorem dL_call_47 : decode cL_call 47 = .ok (.iload_n 3, 1) := by decide +kernel
theorem dL_call_48 : decode cL_call 48 = .ok (.iaload, 1) := by decide +kernel
theorem dL_call_49 : decode cL_call 49 = .ok (.ifCond .le 8, 3) := by decide +kernel
theorem dL_call_52 : decode cL_call 52 = .ok (.bipush (-5), 2) := by decide +kernel
theorem dL_call_54 : decode cL_call 54 = .ok (.goto 4, 3) := by decide +kernel
theorem dL_call_57 : decode cL_call 57 = .ok (.iconst 0, 1) := by decide +kernel
theorem dL_call_58 : decode cL_call 58 = .ok (.if_icmp .eq 5, 3) := by decide +kernel
theorem dL_call_61 : decode cL_call 61 = .ok (.iconst 0, 1) := by decide +kernel
theorem dL_call_62 : decode cL_call 62 = .ok (.ireturn, 1) := by decide +kernel
theorem dL_call_63 : decode cL_call 63 = .ok (.iload 4, 2) := by decide +kernel
theorem dL_call_65 : decode cL_call 65 = .ok (.ifCond .ne 25, 3) := by decide +kernel
theorem dL_call_68 : decode cL_call 68 = .ok (.aload_n 1, 1) := by decide +kernel
theorem dL_call_69 : decode cL_call 69 = .ok (.iload_n 3, 1) := by decide +kernel
theorem dL_call_70 : decode cL_call 70 = .ok (.aload_n 1, 1) := by decide +kernel
theorem dL_call_71 : decode cL_call 71 = .ok (.iload_n 2, 1) := by decide +kernel
theorem dL_call_72 : decode cL_call 72 = .ok (.iaload, 1) := by decide +kernel
theorem dL_call_73 : decode cL_call 73 = .ok (.iastore, 1) := by decide +kernel
theorem dL_call_74 : decode cL_call 74 = .ok (.aload_n 1, 1) := by decide +kernel
theorem dL_call_75 : decode cL_call 75 = .ok (.bipush 8, 2) := by decide +kernel
theorem dL_call_77 : decode cL_call 77 = .ok (.iload_n 3, 1) := by decide +kernel
theorem dL_call_78 : decode cL_call 78 = .ok (.iadd, 1) := by decide +kernel
theorem dL_call_79 : decode cL_call 79 = .ok (.aload_n 1, 1) := by decide +kernel
theorem dL_call_80 : decode cL_call 80 = .ok (.bipush 8, 2) := by decide +kernel
theorem dL_call_82 : decode cL_call 82 = .ok (.iload_n 2, 1) := by decide +kernel
theorem dL_call_83 : decode cL_call 83 = .ok (.iadd, 1) := by decide +kernel
theorem dL_call_84 : decode cL_call 84 = .ok (.iaload, 1) := by decide +kernel
theorem dL_call_85 : decode cL_call 85 = .ok (.iastore, 1) := by decide +kernel
theorem dL_call_86 : decode cL_call 86 = .ok (.aload_n 1, 1) := by decide +kernel
theorem dL_call_87 : decode cL_call 87 = .ok (.iload_n 2, 1) := by decide +kernel
theorem dL_call_88 : decode cL_call 88 = .ok (.iconst 0, 1) := by decide +kernel
theorem dL_call_89 : decode cL_call 89 = .ok (.iastore, 1) := by decide +kernel
theorem dL_call_90 : decode cL_call 90 = .ok (.iconst 1, 1) := by decide +kernel
theorem dL_call_91 : decode cL_call 91 = .ok (.ireturn, 1) := by decide +kernel
set_option maxRecDepth 20000 in
theorem ggL_same_L_reads : GoodIn wsL_same wsL_reads := goodIn_ca (goodIn_ca (goodIn_ca (goodIn_r _ [6, 7, 8, 9, 10, 2, 1, 11, 12, 13, 14, 15, 16, 17, 18, 19, 20, 21, 22, 23, 24, 25, 26, 27, 28, 29, 30, 31, 32, 33, 34, 35, 36, 37, 38, 39, 40, 41, 42, 43, 44, 45, 46, 47, 48, 49, 50, 51, 52, 53, 54, 55, 56, 57, 58, 59, 60, 61, 62, 63, 64, 65, 66, 102, 103, 104, 105, 106, 107, 108, 109, 110, 111, 112, 113, 114, 115, 116] (by decide +kernel) (by decide +kernel)) (goodIn_sub (fun _ h => List.mem_cons_of_mem _ (List.mem_append_left _ (List.mem_append_left _ (List.mem_append_right _ h)))) (by decide +kernel))) (goodIn_sub (fun _ h => List.mem_cons_of_mem _ (List.mem_append_left _ (List.mem_append_right _ h))) (by decide +kernel))) (goodIn_sub (fun _ h => List.mem_cons_of_mem _ (List.mem_append_right _ h)) (by decide +kernel))
set_option maxRecDepth 20000 in
theorem gL_same_L_reads : GoodIn wsL_same (va_wsS RL 114 yL_reads wsL_reads) := goodIn_app (goodIn_of _ (by decide +kernel)) ggL_same_L_reads
set_option maxRecDepth 20000 in
theorem ggL_same_L_handles : GoodIn wsL_same wsL_handles := goodIn_ca (goodIn_r _ [69, 7, 70, 71, 72, 14, 73, 17, 18, 19, 20, 21, 22, 23, 24, 25, 26, 27, 28, 29, 30, 74, 75, 76, 40, 77, 44, 78, 79, 80, 81, 42, 43, 82, 45, 46, 47, 48, 49, 50, 102, 103, 104, 105, 106, 107, 108, 109, 110, 111, 112, 113, 114, 115, 116] (by decide +kernel) (by decide +kernel)) (goodIn_sub (fun _ h => List.mem_cons_of_mem _ (List.mem_append_left _ (List.mem_append_left _ (List.mem_append_right _ h)))) (by decide +kernel))
set_option maxRecDepth 20000 in
theorem gL_same_L_handles : GoodIn wsL_same (va_wsS RL 117 yL_handles wsL_handles) := goodIn_app (goodIn_of _ (by decide +kernel)) ggL_same_L_handles
set_option maxRecDepth 20000 in
theorem ggL_same_L_frees : GoodIn wsL_same wsL_frees := goodIn_ca (goodIn_r _ [85, 7, 86, 87, 88, 14, 89, 17, 18, 19, 20, 21, 22, 23, 24, 25, 26, 27, 28, 29, 30, 90, 91, 92, 40, 93, 42, 43, 61, 94, 95, 96, 97, 45, 46, 47, 48, 49, 50, 98, 99, 100, 101, 102, 103, 104, 105, 106, 107, 108, 109, 110, 111, 112, 113, 114, 115, 116] (by decide +kernel) (by decide +kernel)) (goodIn_sub (fun _ h => List.mem_cons_of_mem _ (List.mem_append_left _ (List.mem_append_left _ (List.mem_append_right _ h)))) (by decide +kernel))
set_option maxRecDepth 20000 in
theorem gL_same_L_frees : GoodIn wsL_same (va_wsS RL 80 yL_frees wsL_frees) := goodIn_app (goodIn_of _ (by decide +kernel)) ggL_same_L_frees
