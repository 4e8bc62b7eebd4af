set_option maxRecDepth 20000 in
theorem ggX0_init_X2_init : GoodIn wsX0_init wsX2_init := goodIn_r _ [14, 15, 2, 3, 16, 17, 18, 19, 20, 21, 22] (by decide +kernel) (by decide +kernel)
set_option maxRecDepth 20000 in
theorem gX0_init_X2_init : GoodIn wsX0_init (wsX2_init) := ggX0_init_X2_init
theorem dX0_init_0 : decode cX0_init 0 = .ok (.aload_n 0, 1) := by decide +kernel
theorem dX0_init_1 : decode cX0_init 1 = .ok (.invokespecial 3, 3) := by decide +kernel
theorem dX0_init_4 : decode cX0_init 4 = .ok (.aload_n 0, 1) := by decide +kernel
theorem dX0_init_5 : decode cX0_init 5 = .ok (.new 9, 3) := by decide +kernel
theorem dX0_init_8 : decode cX0_init 8 = .ok (.dup, 1) := by decide +kernel
theorem dX0_init_9 : decode cX0_init 9 = .ok (.bipush 17, 2) := by decide +kernel
theorem dX0_init_11 : decode cX0_init 11 = .ok (.invokespecial 13, 3) := by decide +kernel
theorem dX0_init_14 : decode cX0_init 14 = .ok (.putfield 16, 3) := by decide +kernel
theorem dX0_init_17 : decode cX0_init 17 = .ok (.aload_n 0, 1) := by decide +kernel
theorem dX0_init_18 : decode cX0_init 18 = .ok (.new 9, 3) := by decide +kernel
theorem dX0_init_21 : decode cX0_init 21 = .ok (.dup, 1) := by decide +kernel
theorem dX0_init_22 : decode cX0_init 22 = .ok (.bipush 17, 2) := by decide +kernel
theorem dX0_init_24 : decode cX0_init 24 = .ok (.invokespecial 13, 3) := by decide +kernel
theorem dX0_init_27 : decode cX0_init 27 = .ok (.putfield 20, 3) := by decide +kernel
theorem dX0_init_30 : decode cX0_init 30 = .ok (.aload_n 0, 1) := by decide +kernel
theorem dX0_init_31 : decode cX0_init 31 = .ok (.new 9, 3) := by decide +kernel
theorem dX0_init_34 : decode cX0_init 34 = .ok (.dup, 1) := by decide +kernel
theorem dX0_init_35 : decode cX0_init 35 = .ok (.bipush 17, 2) := by decide +kernel
theorem dX0_init_37 : decode cX0_init 37 = .ok (.invokespecial 13, 3) := by decide +kernel
theorem dX0_init_40 : decode cX0_init 40 = .ok (.putfield 23, 3) := by decide +kernel
theorem dX0_init_43 : decode cX0_init 43 = .ok (.aload_n 0, 1) := by decide +kernel
theorem dX0_init_44 : decode cX0_init 44 = .ok (.new 9, 3) := by decide +kernel
theorem dX0_init_47 : decode cX0_init 47 = .ok (.dup, 1) := by decide +kernel
theorem dX0_init_48 : decode cX0_init 48 = .ok (.bipush 17, 2) := by decide +kernel
theorem dX0_init_50 : decode cX0_init 50 = .ok (.invokespecial 13, 3) := by decide +kernel
theorem dX0_init_53 : decode cX0_init 53 = .ok (.putfield 26, 3) := by decide +kernel
theorem dX0_init_56 : decode cX0_init 56 = .ok (.aload_n 0, 1) := by decide +kernel
theorem dX0_init_57 : decode cX0_init 57 = .ok (.iconst 0, 1) := by decide +kernel
theorem dX0_init_58 : decode cX0_init 58 = .ok (.putfield 29, 3) := by decide +kernel
theorem dX0_init_61 : decode cX0_init 61 = .ok (.return_, 1) := by decide +kernel
theorem dX0_clear_0 : decode cX0_clear 0 = .ok (.aload_n 0, 1) := by decide +kernel
theorem dX0_clear_1 : decode cX0_clear 1 = .ok (.iconst 0, 1) := by decide +kernel
theorem dX0_clear_2 : decode cX0_clear 2 = .ok (.putfield 29, 3) := by decide +kernel
theorem dX0_clear_5 : decode cX0_clear 5 = .ok (.return_, 1) := by decide +kernel
set_option maxRecDepth 20000 in
theorem ggX0_addEmpty_X0_add : GoodIn wsX0_addEmpty wsX0_add := goodIn_r _ [5, 6, 7, 8, 9, 10, 11, 12, 13, 14, 15, 16, 17, 18, 19, 20, 21, 22, 23, 24, 25, 26] (by decide +kernel) (by decide +kernel)
set_option maxRecDepth 20000 in
theorem gX0_addEmpty_X0_add : GoodIn wsX0_addEmpty (wsV RX0 33 RX0 yX0_add wsX0_add) := goodIn_app (goodIn_of _ (by decide +kernel)) ggX0_addEmpty_X0_add
theorem dX0_addEmpty_0 : decode cX0_addEmpty 0 = .ok (.iload_n 1, 1) := by decide +kernel
theorem dX0_addEmpty_1 : decode cX0_addEmpty 1 = .ok (.ifCond .le 11, 3) := by decide +kernel
theorem dX0_addEmpty_4 : decode cX0_addEmpty 4 = .ok (.aload_n 0, 1) := by decide +kernel
theorem dX0_addEmpty_5 : decode cX0_addEmpty 5 = .ok (.iconst 0, 1) := by decide +kernel
theorem dX0_addEmpty_6 : decode cX0_addEmpty 6 = .ok (.iload_n 1, 1) := by decide +kernel
theorem dX0_addEmpty_7 : decode cX0_addEmpty 7 = .ok (.iconst 0, 1) := by decide +kernel
theorem dX0_addEmpty_8 : decode cX0_addEmpty 8 = .ok (.iconst (-1), 1) := by decide +kernel
theorem dX0_addEmpty_9 : decode cX0_addEmpty 9 = .ok (.invokevirtual 33, 3) := by decide +kernel
theorem dX0_addEmpty_12 : decode cX0_addEmpty 12 = .ok (.return_, 1) := by decide +kernel
set_option maxRecDepth 20000 in
theorem ggX0_addRange_X0_kindAt : GoodIn wsX0_addRange wsX0_kindAt := goodIn_r _ [5, 6, 7, 8, 9, 10, 11, 12, 37, 38, 39, 40, 41, 42] (by decide +kernel) (by decide +kernel)
set_option maxRecDepth 20000 in
theorem gX0_addRange_X0_kindAt : GoodIn wsX0_addRange (wsV RX0 37 RX0 yX0_kindAt wsX0_kindAt) := goodIn_app (goodIn_of _ (by decide +kernel)) ggX0_addRange_X0_kindAt
set_option maxRecDepth 20000 in
theorem ggX0_addRange_X0_lengthAt : GoodIn wsX0_addRange wsX0_lengthAt := goodIn_r _ [16, 17, 7, 8, 9, 10, 11, 12, 37, 38, 39, 40, 41, 42] (by decide +kernel) (by decide +kernel)
set_option maxRecDepth 20000 in
theorem gX0_addRange_X0_lengthAt : GoodIn wsX0_addRange (wsV RX0 41 RX0 yX0_lengthAt wsX0_lengthAt) := goodIn_app (goodIn_of _ (by decide +kernel)) ggX0_addRange_X0_lengthAt
set_option maxRecDepth 20000 in
theorem ggX0_addRange_X0_nameAt : GoodIn wsX0_addRange wsX0_nameAt := goodIn_r _ [21, 22, 7, 8, 9, 10, 11, 12, 37, 38, 39, 40, 41, 42] (by decide +kernel) (by decide +kernel)
set_option maxRecDepth 20000 in
theorem gX0_addRange_X0_nameAt : GoodIn wsX0_addRange (wsV RX0 44 RX0 yX0_nameAt wsX0_nameAt) := goodIn_app (goodIn_of _ (by decide +kernel)) ggX0_addRange_X0_nameAt
set_option maxRecDepth 20000 in
theorem ggX0_addRange_X0_handleAt : GoodIn wsX0_addRange wsX0_handleAt := goodIn_r _ [26, 27, 7, 8, 9, 10, 11, 12, 37, 38, 39, 40, 41, 42] (by decide +kernel) (by decide +kernel)
set_option maxRecDepth 20000 in
theorem gX0_addRange_X0_handleAt : GoodIn wsX0_addRange (wsV RX0 47 RX0 yX0_handleAt wsX0_handleAt) := goodIn_app (goodIn_of _ (by decide +kernel)) ggX0_addRange_X0_handleAt
set_option maxRecDepth 20000 in
theorem ggX0_addRange_X0_add : GoodIn wsX0_addRange wsX0_add := goodIn_r _ [31, 32, 6, 17, 22, 27, 7, 8, 9, 10, 11, 12, 33, 34, 35, 36, 37, 38, 39, 40, 41, 42] (by decide +kernel) (by decide +kernel)
set_option maxRecDepth 20000 in
theorem gX0_addRange_X0_add : GoodIn wsX0_addRange (wsV RX0 33 RX0 yX0_add wsX0_add) := goodIn_app (goodIn_of _ (by decide +kernel)) ggX0_addRange_X0_add
theorem dX0_addRange_0 : decode cX0_addRange 0 = .ok (.iload_n 2, 1) := by decide +kernel
theorem dX0_addRange_1 : decode cX0_addRange 1 = .ok (.istore 4, 2) := by decide +kernel
theorem dX0_addRange_3 : decode cX0_addRange 3 = .ok (.iload 4, 2) := by decide +kernel
theorem dX0_addRange_5 : decode cX0_addRange 5 = .ok (.iload_n 3, 1) := by decide +kernel
theorem dX0_addRange_6 : decode cX0_addRange 6 = .ok (.if_icmp .ge 37, 3) := by decide +kernel
theorem dX0_addRange_9 : decode cX0_addRange 9 = .ok (.aload_n 0, 1) := by decide +kernel
theorem dX0_addRange_10 : decode cX0_addRange 10 = .ok (.aload_n 1, 1) := by decide +kernel
theorem dX0_addRange_11 : decode cX0_addRange 11 = .ok (.iload 4, 2) := by decide +kernel
theorem dX0_addRange_13 : decode cX0_addRange 13 = .ok (.invokevirtual 37, 3) := by decide +kernel
theorem dX0_addRange_16 : decode cX0_addRange 16 = .ok (.aload_n 1, 1) := by decide +kernel
theorem dX0_addRange_17 : decode cX0_addRange 17 = .ok (.iload 4, 2) := by decide +kernel
theorem dX0_addRange_19 : decode cX0_addRange 19 = .ok (.invokevirtual 41, 3) := by decide +kernel
theorem dX0_addRange_22 : decode cX0_addRange 22 = .ok (.aload_n 1, 1) := by decide +kernel
theorem dX0_addRange_23 : decode cX0_addRange 23 = .ok (.iload 4, 2) := by decide +kernel
theorem dX0_addRange_25 : decode cX0_addRange 25 = .ok (.invokevirtual 44, 3) := by decide +kernel
theorem dX0_addRange_28 : decode cX0_addRange 28 = .ok (.aload_n 1, 1) := by decide +kernel
theorem dX0_addRange_29 : decode cX0_addRange 29 = .ok (.iload 4, 2) := by decide +kernel
theorem dX0_addRange_31 : decode cX0_addRange 31 = .ok (.invokevirtual 47, 3) := by decide +kernel
theorem dX0_addRange_34 : decode cX0_addRange 34 = .ok (.invokevirtual 33, 3) := by decide +kernel
theorem dX0_addRange_37 : decode cX0_addRange 37 = .ok (.iinc 4 1, 3) := by decide +kernel
theorem dX0_addRange_40 : decode cX0_addRange 40 = .ok (.goto (-37), 3) := by decide +kernel
theorem dX0_addRange_43 : decode cX0_addRange 43 = .ok (.return_, 1) := by decide +kernel
set_option maxRecDepth 20000 in
theorem ggX0_add_X2_at : GoodIn wsX0_add wsX2_at := goodIn_r _ [10, 11, 21] (by decide +kernel) (by decide +kernel)
set_option maxRecDepth 20000 in
theorem gX0_add_X2_at : GoodIn wsX0_add (wsV RX0 50 RX2 yX2_at wsX2_at) := goodIn_app (goodIn_of _ (by decide +kernel)) ggX0_add_X2_at
set_option maxRecDepth 20000 in
theorem ggX0_add_X2_set : GoodIn wsX0_add wsX2_set := goodIn_r _ [15, 11, 21] (by decide +kernel) (by decide +kernel)
set_option maxRecDepth 20000 in
theorem gX0_add_X2_set : GoodIn wsX0_add (wsV RX0 53 RX2 yX2_set wsX2_set) := goodIn_app (goodIn_of _ (by decide +kernel)) ggX0_add_X2_set
theorem dX0_add_0 : decode cX0_add 0 = .ok (.aload_n 0, 1) := by decide +kernel
theorem dX0_add_1 : decode cX0_add 1 = .ok (.getfield 29, 3) := by decide +kernel
theorem dX0_add_4 : decode cX0_add 4 = .ok (.iconst 1, 1) := by decide +kernel
theorem dX0_add_5 : decode cX0_add 5 = .ok (.isub, 1) := by decide +kernel
theorem dX0_add_6 : decode cX0_add 6 = .ok (.istore 5, 2) := by decide +kernel
theorem dX0_add_8 : decode cX0_add 8 = .ok (.iload_n 1, 1) := by decide +kernel
theorem dX0_add_9 : decode cX0_add 9 = .ok (.ifCond .ne 43, 3) := by decide +kernel
theorem dX0_add_12 : decode cX0_add 12 = .ok (.iload 5, 2) := by decide +kernel
theorem dX0_add_14 : decode cX0_add 14 = .ok (.ifCond .lt 38, 3) := by decide +kernel
theorem dX0_add_17 : decode cX0_add 17 = .ok (.aload_n 0, 1) := by decide +kernel
theorem dX0_add_18 : decode cX0_add 18 = .ok (.getfield 16, 3) := by decide +kernel
theorem dX0_add_21 : decode cX0_add 21 = .ok (.iload 5, 2) := by decide +kernel
theorem dX0_add_23 : decode cX0_add 23 = .ok (.invokevirtual 50, 3) := by decide +kernel
theorem dX0_add_26 : decode cX0_add 26 = .ok (.ifCond .ne 26, 3) := by decide +kernel
theorem dX0_add_29 : decode cX0_add 29 = .ok (.aload_n 0, 1) := by decide +kernel
theorem dX0_add_30 : decode cX0_add 30 = .ok (.getfield 20, 3) := by decide +kernel
theorem dX0_add_33 : decode cX0_add 33 = .ok (.iload 5, 2) := by decide +kernel
theorem dX0_add_35 : decode cX0_add 35 = .ok (.aload_n 0, 1) := by decide +kernel
theorem dX0_add_36 : decode cX0_add 36 = .ok (.getfield 20, 3) := by decide +kernel
theorem dX0_add_39 : decode cX0_add 39 = .ok (.iload 5, 2) := by decide +kernel
theorem dX0_add_41 : decode cX0_add 41 = .ok (.invokevirtual 50, 3) := by decide +kernel
theorem dX0_add_44 : decode cX0_add 44 = .ok (.iload_n 2, 1) := by decide +kernel
theorem dX0_add_45 : decode cX0_add 45 = .ok (.iadd, 1) := by decide +kernel
theorem dX0_add_46 : decode cX0_add 46 = .ok (.invokevirtual 53, 3) := by decide +kernel
theorem dX0_add_49 : decode cX0_add 49 = .ok (.goto 71, 3) := by decide +kernel
theorem dX0_add_52 : decode cX0_add 52 = .ok (.aload_n 0, 1) := by decide +kernel
theorem dX0_add_53 : decode cX0_add 53 = .ok (.getfield 29, 3) := by decide +kernel
theorem dX0_add_56 : decode cX0_add 56 = .ok (.bipush 17, 2) := by decide +kernel
theorem dX0_add_58 : decode cX0_add 58 = .ok (.if_icmp .ge 62, 3) := by decide +kernel
theorem dX0_add_61 : decode cX0_add 61 = .ok (.aload_n 0, 1) := by decide +kernel
theorem dX0_add_62 : decode cX0_add 62 = .ok (.getfield 16, 3) := by decide +kernel
theorem dX0_add_65 : decode cX0_add 65 = .ok (.aload_n 0, 1) := by decide +kernel
theorem dX0_add_66 : decode cX0_add 66 = .ok (.getfield 29, 3) := by decide +kernel
theorem dX0_add_69 : decode cX0_add 69 = .ok (.iload_n 1, 1) := by decide +kernel
theorem dX0_add_70 : decode cX0_add 70 = .ok (.invokevirtual 53, 3) := by decide +kernel
theorem dX0_add_73 : decode cX0_add 73 = .ok (.aload_n 0, 1) := by decide +kernel
theorem dX0_add_74 : decode cX0_add 74 = .ok (.getfield 20, 3) := by decide +kernel
theorem dX0_add_77 : decode cX0_add 77 = .ok (.aload_n 0, 1) := by decide +kernel
theorem dX0_add_78 : decode cX0_add 78 = .ok (.getfield 29, 3) := by decide +kernel
theorem dX0_add_81 : decode cX0_add 81 = .ok (.iload_n 2, 1) := by decide +kernel
theorem dX0_add_82 : decode cX0_add 82 = .ok (.invokevirtual 53, 3) := by decide +kernel
theorem dX0_add_85 : decode cX0_add 85 = .ok (.aload_n 0, 1) := by decide +kernel
theorem dX0_add_86 : decode cX0_add 86 = .ok (.getfield 23, 3) := by decide +kernel
theorem dX0_add_89 : decode cX0_add 89 = .ok (.aload_n 0, 1) := by decide +kernel
theorem dX0_add_90 : decode cX0_add 90 = .ok (.getfield 29, 3) := by decide +kernel
theorem dX0_add_93 : decode cX0_add 93 = .ok (.iload_n 3, 1) := by decide +kernel
theorem dX0_add_94 : decode cX0_add 94 = .ok (.invokevirtual 53, 3) := by decide +kernel
theorem dX0_add_97 : decode cX0_add 97 = .ok (.aload_n 0, 1) := by decide +kernel
theorem dX0_add_98 : decode cX0_add 98 = .ok (.getfield 26, 3) := by decide +kernel
theorem dX0_add_101 : decode cX0_add 101 = .ok (.aload_n 0, 1) := by decide +kernel
theorem dX0_add_102 : decode cX0_add 102 = .ok (.getfield 29, 3) := by decide +kernel
theorem dX0_add_105 : decode cX0_add 105 = .ok (.iload 4, 2) := by decide +kernel
theorem dX0_add_107 : decode cX0_add 107 = .ok (.invokevirtual 53, 3) := by decide +kernel
theorem dX0_add_110 : decode cX0_add 110 = .ok (.aload_n 0, 1) := by decide +kernel
theorem dX0_add_111 : decode cX0_add 111 = .ok (.dup, 1) := by decide +kernel
theorem dX0_add_112 : decode cX0_add 112 = .ok (.getfield 29, 3) := by decide +kernel
theorem dX0_add_115 : decode cX0_add 115 = .ok (.iconst 1, 1) := by decide +kernel
theorem dX0_add_116 : decode cX0_add 116 = .ok (.iadd, 1) := by decide +kernel
theorem dX0_add_117 : decode cX0_add 117 = .ok (.putfield 29, 3) := by decide +kernel
theorem dX0_add_120 : decode cX0_add 120 = .ok (.return_, 1) := by decide +kernel
set_option maxRecDepth 20000 in
theorem ggX0_takeOver_X2_takeOver : GoodIn wsX0_takeOver wsX2_takeOver := goodIn_r _ [10, 11, 12, 13, 14, 9, 15, 21] (by decide +kernel) (by decide +kernel)
set_option maxRecDepth 20000 in
theorem gX0_takeOver_X2_takeOver : GoodIn wsX0_takeOver (wsV RX0 57 RX2 yX2_takeOver wsX2_takeOver) := goodIn_app (goodIn_of _ (by decide +kernel)) ggX0_takeOver_X2_takeOver
theorem dX0_takeOver_0 : decode cX0_takeOver 0 = .ok (.aload_n 0, 1) := by decide +kernel
theorem dX0_takeOver_1 : decode cX0_takeOver 1 = .ok (.getfield 16, 3) := by decide +kernel
theorem dX0_takeOver_4 : decode cX0_takeOver 4 = .ok (.aload_n 1, 1) := by decide +kernel
theorem dX0_takeOver_5 : decode cX0_takeOver 5 = .ok (.getfield 16, 3) := by decide +kernel
theorem dX0_takeOver_8 : decode cX0_takeOver 8 = .ok (.invokevirtual 57, 3) := by decide +kernel
theorem dX0_takeOver_11 : decode cX0_takeOver 11 = .ok (.aload_n 0, 1) := by decide +kernel
theorem dX0_takeOver_12 : decode cX0_takeOver 12 = .ok (.getfield 20, 3) := by decide +kernel
theorem dX0_takeOver_15 : decode cX0_takeOver 15 = .ok (.aload_n 1, 1) := by decide +kernel
theorem dX0_takeOver_16 : decode cX0_takeOver 16 = .ok (.getfield 20, 3) := by decide +kernel
theorem dX0_takeOver_19 : decode cX0_takeOver 19 = .ok (.invokevirtual 57, 3) := by decide +kernel
theorem dX0_takeOver_22 : decode cX0_takeOver 22 = .ok (.aload_n 0, 1) := by decide +kernel
theorem dX0_takeOver_23 : decode cX0_takeOver 23 = .ok (.getfield 23, 3) := by decide +kernel
theorem dX0_takeOver_26 : decode cX0_takeOver 26 = .ok (.aload_n 1, 1) := by decide +kernel
theorem dX0_takeOver_27 : decode cX0_takeOver 27 = .ok (.getfield 23, 3) := by decide +kernel
theorem dX0_takeOver_30 : decode cX0_takeOver 30 = .ok (.invokevirtual 57, 3) := by decide +kernel
theorem dX0_takeOver_33 : decode cX0_takeOver 33 = .ok (.aload_n 0, 1) := by decide +kernel
theorem dX0_takeOver_34 : decode cX0_takeOver 34 = .ok (.getfield 26, 3) := by decide +kernel
theorem dX0_takeOver_37 : decode cX0_takeOver 37 = .ok (.aload_n 1, 1) := by decide +kernel
theorem dX0_takeOver_38 : decode cX0_takeOver 38 = .ok (.getfield 26, 3) := by decide +kernel
theorem dX0_takeOver_41 : decode cX0_takeOver 41 = .ok (.invokevirtual 57, 3) := by decide +kernel
theorem dX0_takeOver_44 : decode cX0_takeOver 44 = .ok (.aload_n 0, 1) := by decide +kernel
theorem dX0_takeOver_45 : decode cX0_takeOver 45 = .ok (.aload_n 1, 1) := by decide +kernel
theorem dX0_takeOver_46 : decode cX0_takeOver 46 = .ok (.getfield 29, 3) := by decide +kernel
theorem dX0_takeOver_49 : decode cX0_takeOver 49 = .ok (.putfield 29, 3) := by decide +kernel
theorem dX0_takeOver_52 : decode cX0_takeOver 52 = .ok (.return_, 1) := by decide +kernel
theorem dX0_count_0 : decode cX0_count 0 = .ok (.aload_n 0, 1) := by decide +kernel
theorem dX0_count_1 : decode cX0_count 1 = .ok (.getfield 29, 3) := by decide +kernel
theorem dX0_count_4 : decode cX0_count 4 = .ok (.ireturn, 1) := by decide +kernel
set_option maxRecDepth 20000 in
theorem ggX0_kindAt_X2_at : GoodIn wsX0_kindAt wsX2_at := goodIn_r _ [6, 7, 13] (by decide +kernel) (by decide +kernel)
set_option maxRecDepth 20000 in
theorem gX0_kindAt_X2_at : GoodIn wsX0_kindAt (wsV RX0 50 RX2 yX2_at wsX2_at) := goodIn_app (goodIn_of _ (by decide +kernel)) ggX0_kindAt_X2_at
theorem dX0_kindAt_0 : decode cX0_kindAt 0 = .ok (.aload_n 0, 1) := by decide +kernel
theorem dX0_kindAt_1 : decode cX0_kindAt 1 = .ok (.getfield 16, 3) := by decide +kernel
theorem dX0_kindAt_4 : decode cX0_kindAt 4 = .ok (.iload_n 1, 1) := by decide +kernel
theorem dX0_kindAt_5 : decode cX0_kindAt 5 = .ok (.invokevirtual 50, 3) := by decide +kernel
theorem dX0_kindAt_8 : decode cX0_kindAt 8 = .ok (.ireturn, 1) := by decide +kernel
set_option maxRecDepth 20000 in
theorem ggX0_lengthAt_X2_at : GoodIn wsX0_lengthAt wsX2_at := goodIn_r _ [6, 7, 13] (by decide +kernel) (by decide +kernel)
set_option maxRecDepth 20000 in
theorem gX0_lengthAt_X2_at : GoodIn wsX0_lengthAt (wsV RX0 50 RX2 yX2_at wsX2_at) := goodIn_app (goodIn_of _ (by decide +kernel)) ggX0_lengthAt_X2_at
theorem dX0_lengthAt_0 : decode cX0_lengthAt 0 = .ok (.aload_n 0, 1) := by decide +kernel
theorem dX0_lengthAt_1 : decode cX0_lengthAt 1 = .ok (.getfield 20, 3) := by decide +kernel
theorem dX0_lengthAt_4 : decode cX0_lengthAt 4 = .ok (.iload_n 1, 1) := by decide +kernel
theorem dX0_lengthAt_5 : decode cX0_lengthAt 5 = .ok (.invokevirtual 50, 3) := by decide +kernel
theorem dX0_lengthAt_8 : decode cX0_lengthAt 8 = .ok (.ireturn, 1) := by decide +kernel
set_option maxRecDepth 20000 in
theorem ggX0_nameAt_X2_at : GoodIn wsX0_nameAt wsX2_at := goodIn_r _ [6, 7, 13] (by decide +kernel) (by decide +kernel)
set_option maxRecDepth 20000 in
theorem gX0_nameAt_X2_at : GoodIn wsX0_nameAt (wsV RX0 50 RX2 yX2_at wsX2_at) := goodIn_app (goodIn_of _ (by decide +kernel)) ggX0_nameAt_X2_at
theorem dX0_nameAt_0 : decode cX0_nameAt 0 = .ok (.aload_n 0, 1) := by decide +kernel
theorem dX0_nameAt_1 : decode cX0_nameAt 1 = .ok (.getfield 23, 3) := by decide +kernel
theorem dX0_nameAt_4 : decode cX0_nameAt 4 = .ok (.iload_n 1, 1) := by decide +kernel
theorem dX0_nameAt_5 : decode cX0_nameAt 5 = .ok (.invokevirtual 50, 3) := by decide +kernel
theorem dX0_nameAt_8 : decode cX0_nameAt 8 = .ok (.ireturn, 1) := by decide +kernel
set_option maxRecDepth 20000 in
theorem ggX0_handleAt_X2_at : GoodIn wsX0_handleAt wsX2_at := goodIn_r _ [6, 7, 13] (by decide +kernel) (by decide +kernel)
set_option maxRecDepth 20000 in
theorem gX0_handleAt_X2_at : GoodIn wsX0_handleAt (wsV RX0 50 RX2 yX2_at wsX2_at) := goodIn_app (goodIn_of _ (by decide +kernel)) ggX0_handleAt_X2_at
theorem dX0_handleAt_0 : decode cX0_handleAt 0 = .ok (.aload_n 0, 1) := by decide +kernel
theorem dX0_handleAt_1 : decode cX0_handleAt 1 = .ok (.getfield 26, 3) := by decide +kernel
theorem dX0_handleAt_4 : decode cX0_handleAt 4 = .ok (.iload_n 1, 1) := by decide +kernel
theorem dX0_handleAt_5 : decode cX0_handleAt 5 = .ok (.invokevirtual 50, 3) := by decide +kernel
theorem dX0_handleAt_8 : decode cX0_handleAt 8 = .ok (.ireturn, 1) := by decide +kernel
set_option maxRecDepth 20000 in
theorem ggX0_beginAt_X2_at : GoodIn wsX0_beginAt wsX2_at := goodIn_r _ [7, 8, 14] (by decide +kernel) (by decide +kernel)
set_option maxRecDepth 20000 in
theorem gX0_beginAt_X2_at : GoodIn wsX0_beginAt (wsV RX0 50 RX2 yX2_at wsX2_at) := goodIn_app (goodIn_of _ (by decide +kernel)) ggX0_beginAt_X2_at
theorem dX0_beginAt_0 : decode cX0_beginAt 0 = .ok (.iconst 0, 1) := by decide +kernel
theorem dX0_beginAt_1 : decode cX0_beginAt 1 = .ok (.istore_n 2, 1) := by decide +kernel
theorem dX0_beginAt_2 : decode cX0_beginAt 2 = .ok (.iconst 0, 1) := by decide +kernel
theorem dX0_beginAt_3 : decode cX0_beginAt 3 = .ok (.istore_n 3, 1) := by decide +kernel
theorem dX0_beginAt_4 : decode cX0_beginAt 4 = .ok (.iload_n 3, 1) := by decide +kernel
theorem dX0_beginAt_5 : decode cX0_beginAt 5 = .ok (.iload_n 1, 1) := by decide +kernel
theorem dX0_beginAt_6 : decode cX0_beginAt 6 = .ok (.if_icmp .ge 28, 3) := by decide +kernel
theorem dX0_beginAt_9 : decode cX0_beginAt 9 = .ok (.iload_n 3, 1) := by decide +kernel
theorem dX0_beginAt_10 : decode cX0_beginAt 10 = .ok (.aload_n 0, 1) := by decide +kernel
theorem dX0_beginAt_11 : decode cX0_beginAt 11 = .ok (.getfield 29, 3) := by decide +kernel
theorem dX0_beginAt_14 : decode cX0_beginAt 14 = .ok (.if_icmp .ge 20, 3) := by decide +kernel
theorem dX0_beginAt_17 : decode cX0_beginAt 17 = .ok (.iload_n 2, 1) := by decide +kernel
theorem dX0_beginAt_18 : decode cX0_beginAt 18 = .ok (.aload_n 0, 1) := by decide +kernel
theorem dX0_beginAt_19 : decode cX0_beginAt 19 = .ok (.getfield 20, 3) := by decide +kernel
theorem dX0_beginAt_22 : decode cX0_beginAt 22 = .ok (.iload_n 3, 1) := by decide +kernel
theorem dX0_beginAt_23 : decode cX0_beginAt 23 = .ok (.invokevirtual 50, 3) := by decide +kernel
theorem dX0_beginAt_26 : decode cX0_beginAt 26 = .ok (.iadd, 1) := by decide +kernel
theorem dX0_beginAt_27 : decode cX0_beginAt 27 = .ok (.istore_n 2, 1) := by decide +kernel
theorem dX0_beginAt_28 : decode cX0_beginAt 28 = .ok (.iinc 3 1, 3) := by decide +kernel
theorem dX0_beginAt_31 : decode cX0_beginAt 31 = .ok (.goto (-27), 3) := by decide +kernel
theorem dX0_beginAt_34 : decode cX0_beginAt 34 = .ok (.iload_n 2, 1) := by decide +kernel
theorem dX0_beginAt_35 : decode cX0_beginAt 35 = .ok (.ireturn, 1) := by decide +kernel
set_option maxRecDepth 20000 in
theorem ggX0_countOf_X2_at : GoodIn wsX0_countOf wsX2_at := goodIn_r _ [7, 8, 14] (by decide +kernel) (by decide +kernel)
set_option maxRecDepth 20000 in
theorem gX0_countOf_X2_at : GoodIn wsX0_countOf (wsV RX0 50 RX2 yX2_at wsX2_at) := goodIn_app (goodIn_of _ (by decide +kernel)) ggX0_countOf_X2_at
theorem dX0_countOf_0 : decode cX0_countOf 0 = .ok (.iconst 0, 1) := by decide +kernel
theorem dX0_countOf_1 : decode cX0_countOf 1 = .ok (.istore_n 2, 1) := by decide +kernel
theorem dX0_countOf_2 : decode cX0_countOf 2 = .ok (.iconst 0, 1) := by decide +kernel
theorem dX0_countOf_3 : decode cX0_countOf 3 = .ok (.istore_n 3, 1) := by decide +kernel
theorem dX0_countOf_4 : decode cX0_countOf 4 = .ok (.iload_n 3, 1) := by decide +kernel
theorem dX0_countOf_5 : decode cX0_countOf 5 = .ok (.aload_n 0, 1) := by decide +kernel
theorem dX0_countOf_6 : decode cX0_countOf 6 = .ok (.getfield 29, 3) := by decide +kernel
theorem dX0_countOf_9 : decode cX0_countOf 9 = .ok (.if_icmp .ge 24, 3) := by decide +kernel
theorem dX0_countOf_12 : decode cX0_countOf 12 = .ok (.aload_n 0, 1) := by decide +kernel
theorem dX0_countOf_13 : decode cX0_countOf 13 = .ok (.getfield 16, 3) := by decide +kernel
theorem dX0_countOf_16 : decode cX0_countOf 16 = .ok (.iload_n 3, 1) := by decide +kernel
theorem dX0_countOf_17 : decode cX0_countOf 17 = .ok (.invokevirtual 50, 3) := by decide +kernel
theorem dX0_countOf_20 : decode cX0_countOf 20 = .ok (.iload_n 1, 1) := by decide +kernel
theorem dX0_countOf_21 : decode cX0_countOf 21 = .ok (.if_icmp .ne 6, 3) := by decide +kernel
theorem dX0_countOf_24 : decode cX0_countOf 24 = .ok (.iinc 2 1, 3) := by decide +kernel
theorem dX0_countOf_27 : decode cX0_countOf 27 = .ok (.iinc 3 1, 3) := by decide +kernel
theorem dX0_countOf_30 : decode cX0_countOf 30 = .ok (.goto (-26), 3) := by decide +kernel
theorem dX0_countOf_33 : decode cX0_countOf 33 = .ok (.iload_n 2, 1) := by decide +kernel
theorem dX0_countOf_34 : decode cX0_countOf 34 = .ok (.ireturn, 1) := by decide +kernel
set_option maxRecDepth 20000 in
theorem ggX0_findTentative_X2_at : GoodIn wsX0_findTentative wsX2_at := goodIn_r _ [8, 9, 15] (by decide +kernel) (by decide +kernel)
set_option maxRecDepth 20000 in
theorem gX0_findTentative_X2_at : GoodIn wsX0_findTentative (wsV RX0 50 RX2 yX2_at wsX2_at) := goodIn_app (goodIn_of _ (by decide +kernel)) ggX0_findTentative_X2_at
theorem dX0_findTentative_0 : decode cX0_findTentative 0 = .ok (.iconst 0, 1) := by decide +kernel
theorem dX0_findTentative_1 : decode cX0_findTentative 1 = .ok (.istore_n 2, 1) := by decide +kernel
theorem dX0_findTentative_2 : decode cX0_findTentative 2 = .ok (.iload_n 2, 1) := by decide +kernel
theorem dX0_findTentative_3 : decode cX0_findTentative 3 = .ok (.aload_n 0, 1) := by decide +kernel
theorem dX0_findTentative_4 : decode cX0_findTentative 4 = .ok (.getfield 29, 3) := by decide +kernel
theorem dX0_findTentative_7 : decode cX0_findTentative 7 = .ok (.if_icmp .ge 35, 3) := by decide +kernel
theorem dX0_findTentative_10 : decode cX0_findTentative 10 = .ok (.aload_n 0, 1) := by decide +kernel
theorem dX0_findTentative_11 : decode cX0_findTentative 11 = .ok (.getfield 16, 3) := by decide +kernel
theorem dX0_findTentative_14 : decode cX0_findTentative 14 = .ok (.iload_n 2, 1) := by decide +kernel
theorem dX0_findTentative_15 : decode cX0_findTentative 15 = .ok (.invokevirtual 50, 3) := by decide +kernel
theorem dX0_findTentative_18 : decode cX0_findTentative 18 = .ok (.iconst 1, 1) := by decide +kernel
theorem dX0_findTentative_19 : decode cX0_findTentative 19 = .ok (.if_icmp .ne 17, 3) := by decide +kernel
theorem dX0_findTentative_22 : decode cX0_findTentative 22 = .ok (.aload_n 0, 1) := by decide +kernel
theorem dX0_findTentative_23 : decode cX0_findTentative 23 = .ok (.getfield 26, 3) := by decide +kernel
theorem dX0_findTentative_26 : decode cX0_findTentative 26 = .ok (.iload_n 2, 1) := by decide +kernel
theorem dX0_findTentative_27 : decode cX0_findTentative 27 = .ok (.invokevirtual 50, 3) := by decide +kernel
theorem dX0_findTentative_30 : decode cX0_findTentative 30 = .ok (.iload_n 1, 1) := by decide +kernel
theorem dX0_findTentative_31 : decode cX0_findTentative 31 = .ok (.if_icmp .ne 5, 3) := by decide +kernel
theorem dX0_findTentative_34 : decode cX0_findTentative 34 = .ok (.iload_n 2, 1) := by decide +kernel
theorem dX0_findTentative_35 : decode cX0_findTentative 35 = .ok (.ireturn, 1) := by decide +kernel
theorem dX0_findTentative_36 : decode cX0_findTentative 36 = .ok (.iinc 2 1, 3) := by decide +kernel
theorem dX0_findTentative_39 : decode cX0_findTentative 39 = .ok (.goto (-37), 3) := by decide +kernel
theorem dX0_findTentative_42 : decode cX0_findTentative 42 = .ok (.iconst (-1), 1) := by decide +kernel
theorem dX0_findTentative_43 : decode cX0_findTentative 43 = .ok (.ireturn, 1) := by decide +kernel
set_option maxRecDepth 20000 in
theorem ggX0_findPermanent_X2_at : GoodIn wsX0_findPermanent wsX2_at := goodIn_r _ [8, 9, 15] (by decide +kernel) (by decide +kernel)
set_option maxRecDepth 20000 in
theorem gX0_findPermanent_X2_at : GoodIn wsX0_findPermanent (wsV RX0 50 RX2 yX2_at wsX2_at) := goodIn_app (goodIn_of _ (by decide +kernel)) ggX0_findPermanent_X2_at
theorem dX0_findPermanent_0 : decode cX0_findPermanent 0 = .ok (.iconst 0, 1) := by decide +kernel
theorem dX0_findPermanent_1 : decode cX0_findPermanent 1 = .ok (.istore_n 2, 1) := by decide +kernel
theorem dX0_findPermanent_2 : decode cX0_findPermanent 2 = .ok (.iload_n 2, 1) := by decide +kernel
theorem dX0_findPermanent_3 : decode cX0_findPermanent 3 = .ok (.aload_n 0, 1) := by decide +kernel
theorem dX0_findPermanent_4 : decode cX0_findPermanent 4 = .ok (.getfield 29, 3) := by decide +kernel
theorem dX0_findPermanent_7 : decode cX0_findPermanent 7 = .ok (.if_icmp .ge 35, 3) := by decide +kernel
theorem dX0_findPermanent_10 : decode cX0_findPermanent 10 = .ok (.aload_n 0, 1) := by decide +kernel
theorem dX0_findPermanent_11 : decode cX0_findPermanent 11 = .ok (.getfield 16, 3) := by decide +kernel
theorem dX0_findPermanent_14 : decode cX0_findPermanent 14 = .ok (.iload_n 2, 1) := by decide +kernel
theorem dX0_findPermanent_15 : decode cX0_findPermanent 15 = .ok (.invokevirtual 50, 3) := by decide +kernel
theorem dX0_findPermanent_18 : decode cX0_findPermanent 18 = .ok (.iconst 2, 1) := by decide +kernel
theorem dX0_findPermanent_19 : decode cX0_findPermanent 19 = .ok (.if_icmp .ne 17, 3) := by decide +kernel
theorem dX0_findPermanent_22 : decode cX0_findPermanent 22 = .ok (.aload_n 0, 1) := by decide +kernel
theorem dX0_findPermanent_23 : decode cX0_findPermanent 23 = .ok (.getfield 23, 3) := by decide +kernel
theorem dX0_findPermanent_26 : decode cX0_findPermanent 26 = .ok (.iload_n 2, 1) := by decide +kernel
theorem dX0_findPermanent_27 : decode cX0_findPermanent 27 = .ok (.invokevirtual 50, 3) := by decide +kernel
theorem dX0_findPermanent_30 : decode cX0_findPermanent 30 = .ok (.iload_n 1, 1) := by decide +kernel
theorem dX0_findPermanent_31 : decode cX0_findPermanent 31 = .ok (.if_icmp .ne 5, 3) := by decide +kernel
theorem dX0_findPermanent_34 : decode cX0_findPermanent 34 = .ok (.iload_n 2, 1) := by decide +kernel
theorem dX0_findPermanent_35 : decode cX0_findPermanent 35 = .ok (.ireturn, 1) := by decide +kernel
theorem dX0_findPermanent_36 : decode cX0_findPermanent 36 = .ok (.iinc 2 1, 3) := by decide +kernel
theorem dX0_findPermanent_39 : decode cX0_findPermanent 39 = .ok (.goto (-37), 3) := by decide +kernel
theorem dX0_findPermanent_42 : decode cX0_findPermanent 42 = .ok (.iconst (-1), 1) := by decide +kernel
theorem dX0_findPermanent_43 : decode cX0_findPermanent 43 = .ok (.ireturn, 1) := by decide +kernel
set_option maxRecDepth 20000 in
theorem ggX0_leastFreeHandle_X0_findTentative : GoodIn wsX0_leastFreeHandle wsX0_findTentative := goodIn_r _ [5, 6, 7, 8, 9, 10, 11, 12, 13, 14, 15, 16, 17, 18, 19, 20] (by decide +kernel) (by decide +kernel)
set_option maxRecDepth 20000 in
theorem gX0_leastFreeHandle_X0_findTentative : GoodIn wsX0_leastFreeHandle (wsV RX0 61 RX0 yX0_findTentative wsX0_findTentative) := goodIn_app (goodIn_of _ (by decide +kernel)) ggX0_leastFreeHandle_X0_findTentative
theorem dX0_leastFreeHandle_0 : decode cX0_leastFreeHandle 0 = .ok (.iconst 0, 1) := by decide +kernel
theorem dX0_leastFreeHandle_1 : decode cX0_leastFreeHandle 1 = .ok (.istore_n 1, 1) := by decide +kernel
theorem dX0_leastFreeHandle_2 : decode cX0_leastFreeHandle 2 = .ok (.iload_n 1, 1) := by decide +kernel
theorem dX0_leastFreeHandle_3 : decode cX0_leastFreeHandle 3 = .ok (.iconst 4, 1) := by decide +kernel
theorem dX0_leastFreeHandle_4 : decode cX0_leastFreeHandle 4 = .ok (.if_icmp .ge 20, 3) := by decide +kernel
theorem dX0_leastFreeHandle_7 : decode cX0_leastFreeHandle 7 = .ok (.aload_n 0, 1) := by decide +kernel
theorem dX0_leastFreeHandle_8 : decode cX0_leastFreeHandle 8 = .ok (.iload_n 1, 1) := by decide +kernel
theorem dX0_leastFreeHandle_9 : decode cX0_leastFreeHandle 9 = .ok (.invokevirtual 61, 3) := by decide +kernel
theorem dX0_leastFreeHandle_12 : decode cX0_leastFreeHandle 12 = .ok (.iconst (-1), 1) := by decide +kernel
theorem dX0_leastFreeHandle_13 : decode cX0_leastFreeHandle 13 = .ok (.if_icmp .ne 5, 3) := by decide +kernel
theorem dX0_leastFreeHandle_16 : decode cX0_leastFreeHandle 16 = .ok (.iload_n 1, 1) := by decide +kernel
theorem dX0_leastFreeHandle_17 : decode cX0_leastFreeHandle 17 = .ok (.ireturn, 1) := by decide +kernel
theorem dX0_leastFreeHandle_18 : decode cX0_leastFreeHandle 18 = .ok (.iinc 1 1, 3) := by decide +kernel
theorem dX0_leastFreeHandle_21 : decode cX0_leastFreeHandle 21 = .ok (.goto (-19), 3) := by decide +kernel
theorem dX0_leastFreeHandle_24 : decode cX0_leastFreeHandle 24 = .ok (.iconst (-1), 1) := by decide +kernel
theorem dX0_leastFreeHandle_25 : decode cX0_leastFreeHandle 25 = .ok (.ireturn, 1) := by decide +kernel
set_option maxRecDepth 20000 in
theorem ggX0_leastHandleOf_X0_findTentative : GoodIn wsX0_leastHandleOf wsX0_findTentative := goodIn_r _ [6, 7, 8, 9, 10, 11, 12, 13, 14, 15, 16, 17, 18, 19, 20, 21] (by decide +kernel) (by decide +kernel)
set_option maxRecDepth 20000 in
theorem gX0_leastHandleOf_X0_findTentative : GoodIn wsX0_leastHandleOf (wsV RX0 61 RX0 yX0_findTentative wsX0_findTentative) := goodIn_app (goodIn_of _ (by decide +kernel)) ggX0_leastHandleOf_X0_findTentative
set_option maxRecDepth 20000 in
theorem ggX0_leastHandleOf_X2_at : GoodIn wsX0_leastHandleOf wsX2_at := goodIn_r _ [14, 15, 21] (by decide +kernel) (by decide +kernel)
set_option maxRecDepth 20000 in
theorem gX0_leastHandleOf_X2_at : GoodIn wsX0_leastHandleOf (wsV RX0 50 RX2 yX2_at wsX2_at) := goodIn_app (goodIn_of _ (by decide +kernel)) ggX0_leastHandleOf_X2_at
theorem dX0_leastHandleOf_0 : decode cX0_leastHandleOf 0 = .ok (.iconst 0, 1) := by decide +kernel
theorem dX0_leastHandleOf_1 : decode cX0_leastHandleOf 1 = .ok (.istore_n 2, 1) := by decide +kernel
theorem dX0_leastHandleOf_2 : decode cX0_leastHandleOf 2 = .ok (.iload_n 2, 1) := by decide +kernel
theorem dX0_leastHandleOf_3 : decode cX0_leastHandleOf 3 = .ok (.iconst 4, 1) := by decide +kernel
theorem dX0_leastHandleOf_4 : decode cX0_leastHandleOf 4 = .ok (.if_icmp .ge 34, 3) := by decide +kernel
theorem dX0_leastHandleOf_7 : decode cX0_leastHandleOf 7 = .ok (.aload_n 0, 1) := by decide +kernel
theorem dX0_leastHandleOf_8 : decode cX0_leastHandleOf 8 = .ok (.iload_n 2, 1) := by decide +kernel
theorem dX0_leastHandleOf_9 : decode cX0_leastHandleOf 9 = .ok (.invokevirtual 61, 3) := by decide +kernel
theorem dX0_leastHandleOf_12 : decode cX0_leastHandleOf 12 = .ok (.istore_n 3, 1) := by decide +kernel
theorem dX0_leastHandleOf_13 : decode cX0_leastHandleOf 13 = .ok (.iload_n 3, 1) := by decide +kernel
theorem dX0_leastHandleOf_14 : decode cX0_leastHandleOf 14 = .ok (.iconst (-1), 1) := by decide +kernel
theorem dX0_leastHandleOf_15 : decode cX0_leastHandleOf 15 = .ok (.if_icmp .eq 17, 3) := by decide +kernel
theorem dX0_leastHandleOf_18 : decode cX0_leastHandleOf 18 = .ok (.aload_n 0, 1) := by decide +kernel
theorem dX0_leastHandleOf_19 : decode cX0_leastHandleOf 19 = .ok (.getfield 23, 3) := by decide +kernel
theorem dX0_leastHandleOf_22 : decode cX0_leastHandleOf 22 = .ok (.iload_n 3, 1) := by decide +kernel
theorem dX0_leastHandleOf_23 : decode cX0_leastHandleOf 23 = .ok (.invokevirtual 50, 3) := by decide +kernel
theorem dX0_leastHandleOf_26 : decode cX0_leastHandleOf 26 = .ok (.iload_n 1, 1) := by decide +kernel
theorem dX0_leastHandleOf_27 : decode cX0_leastHandleOf 27 = .ok (.if_icmp .ne 5, 3) := by decide +kernel
theorem dX0_leastHandleOf_30 : decode cX0_leastHandleOf 30 = .ok (.iload_n 2, 1) := by decide +kernel
theorem dX0_leastHandleOf_31 : decode cX0_leastHandleOf 31 = .ok (.ireturn, 1) := by decide +kernel
theorem dX0_leastHandleOf_32 : decode cX0_leastHandleOf 32 = .ok (.iinc 2 1, 3) := by decide +kernel
theorem dX0_leastHandleOf_35 : decode cX0_leastHandleOf 35 = .ok (.goto (-33), 3) := by decide +kernel
theorem dX0_leastHandleOf_38 : decode cX0_leastHandleOf 38 = .ok (.iconst (-1), 1) := by decide +kernel
theorem dX0_leastHandleOf_39 : decode cX0_leastHandleOf 39 = .ok (.ireturn, 1) := by decide +kernel
set_option maxRecDepth 20000 in
theorem ggX0_findRoom_X2_at : GoodIn wsX0_findRoom wsX2_at := goodIn_r _ [8, 9, 15] (by decide +kernel) (by decide +kernel)
set_option maxRecDepth 20000 in
theorem gX0_findRoom_X2_at : GoodIn wsX0_findRoom (wsV RX0 50 RX2 yX2_at wsX2_at) := goodIn_app (goodIn_of _ (by decide +kernel)) ggX0_findRoom_X2_at
theorem dX0_findRoom_0 : decode cX0_findRoom 0 = .ok (.iconst (-1), 1) := by decide +kernel
theorem dX0_findRoom_1 : decode cX0_findRoom 1 = .ok (.istore_n 2, 1) := by decide +kernel
theorem dX0_findRoom_2 : decode cX0_findRoom 2 = .ok (.iconst 0, 1) := by decide +kernel
theorem dX0_findRoom_3 : decode cX0_findRoom 3 = .ok (.istore_n 3, 1) := by decide +kernel
theorem dX0_findRoom_4 : decode cX0_findRoom 4 = .ok (.iload_n 3, 1) := by decide +kernel
theorem dX0_findRoom_5 : decode cX0_findRoom 5 = .ok (.aload_n 0, 1) := by decide +kernel
theorem dX0_findRoom_6 : decode cX0_findRoom 6 = .ok (.getfield 29, 3) := by decide +kernel
theorem dX0_findRoom_9 : decode cX0_findRoom 9 = .ok (.if_icmp .ge 58, 3) := by decide +kernel
theorem dX0_findRoom_12 : decode cX0_findRoom 12 = .ok (.aload_n 0, 1) := by decide +kernel
theorem dX0_findRoom_13 : decode cX0_findRoom 13 = .ok (.getfield 16, 3) := by decide +kernel
theorem dX0_findRoom_16 : decode cX0_findRoom 16 = .ok (.iload_n 3, 1) := by decide +kernel
theorem dX0_findRoom_17 : decode cX0_findRoom 17 = .ok (.invokevirtual 50, 3) := by decide +kernel
theorem dX0_findRoom_20 : decode cX0_findRoom 20 = .ok (.ifCond .ne 41, 3) := by decide +kernel
theorem dX0_findRoom_23 : decode cX0_findRoom 23 = .ok (.aload_n 0, 1) := by decide +kernel
theorem dX0_findRoom_24 : decode cX0_findRoom 24 = .ok (.getfield 20, 3) := by decide +kernel
theorem dX0_findRoom_27 : decode cX0_findRoom 27 = .ok (.iload_n 3, 1) := by decide +kernel
theorem dX0_findRoom_28 : decode cX0_findRoom 28 = .ok (.invokevirtual 50, 3) := by decide +kernel
theorem dX0_findRoom_31 : decode cX0_findRoom 31 = .ok (.iload_n 1, 1) := by decide +kernel
theorem dX0_findRoom_32 : decode cX0_findRoom 32 = .ok (.if_icmp .lt 29, 3) := by decide +kernel
theorem dX0_findRoom_35 : decode cX0_findRoom 35 = .ok (.iload_n 2, 1) := by decide +kernel
theorem dX0_findRoom_36 : decode cX0_findRoom 36 = .ok (.iconst (-1), 1) := by decide +kernel
theorem dX0_findRoom_37 : decode cX0_findRoom 37 = .ok (.if_icmp .eq 22, 3) := by decide +kernel
theorem dX0_findRoom_40 : decode cX0_findRoom 40 = .ok (.aload_n 0, 1) := by decide +kernel
theorem dX0_findRoom_41 : decode cX0_findRoom 41 = .ok (.getfield 20, 3) := by decide +kernel
theorem dX0_findRoom_44 : decode cX0_findRoom 44 = .ok (.iload_n 3, 1) := by decide +kernel
theorem dX0_findRoom_45 : decode cX0_findRoom 45 = .ok (.invokevirtual 50, 3) := by decide +kernel
theorem dX0_findRoom_48 : decode cX0_findRoom 48 = .ok (.aload_n 0, 1) := by decide +kernel
theorem dX0_findRoom_49 : decode cX0_findRoom 49 = .ok (.getfield 20, 3) := by decide +kernel
theorem dX0_findRoom_52 : decode cX0_findRoom 52 = .ok (.iload_n 2, 1) := by decide +kernel
theorem dX0_findRoom_53 : decode cX0_findRoom 53 = .ok (.invokevirtual 50, 3) := by decide +kernel
theorem dX0_findRoom_56 : decode cX0_findRoom 56 = .ok (.if_icmp .ge 5, 3) := by decide +kernel
theorem dX0_findRoom_59 : decode cX0_findRoom 59 = .ok (.iload_n 3, 1) := by decide +kernel
theorem dX0_findRoom_60 : decode cX0_findRoom 60 = .ok (.istore_n 2, 1) := by decide +kernel
theorem dX0_findRoom_61 : decode cX0_findRoom 61 = .ok (.iinc 3 1, 3) := by decide +kernel
theorem dX0_findRoom_64 : decode cX0_findRoom 64 = .ok (.goto (-60), 3) := by decide +kernel
theorem dX0_findRoom_67 : decode cX0_findRoom 67 = .ok (.iload_n 2, 1) := by decide +kernel
theorem dX0_findRoom_68 : decode cX0_findRoom 68 = .ok (.ireturn, 1) := by decide +kernel
set_option maxRecDepth 20000 in
theorem ggX0_findGap_X2_at : GoodIn wsX0_findGap wsX2_at := goodIn_r _ [7, 8, 14] (by decide +kernel) (by decide +kernel)
set_option maxRecDepth 20000 in
theorem gX0_findGap_X2_at : GoodIn wsX0_findGap (wsV RX0 50 RX2 yX2_at wsX2_at) := goodIn_app (goodIn_of _ (by decide +kernel)) ggX0_findGap_X2_at
theorem dX0_findGap_0 : decode cX0_findGap 0 = .ok (.iconst 0, 1) := by decide +kernel
theorem dX0_findGap_1 : decode cX0_findGap 1 = .ok (.istore_n 1, 1) := by decide +kernel
theorem dX0_findGap_2 : decode cX0_findGap 2 = .ok (.iload_n 1, 1) := by decide +kernel
theorem dX0_findGap_3 : decode cX0_findGap 3 = .ok (.iconst 1, 1) := by decide +kernel
theorem dX0_findGap_4 : decode cX0_findGap 4 = .ok (.iadd, 1) := by decide +kernel
theorem dX0_findGap_5 : decode cX0_findGap 5 = .ok (.aload_n 0, 1) := by decide +kernel
theorem dX0_findGap_6 : decode cX0_findGap 6 = .ok (.getfield 29, 3) := by decide +kernel
theorem dX0_findGap_9 : decode cX0_findGap 9 = .ok (.if_icmp .ge 35, 3) := by decide +kernel
theorem dX0_findGap_12 : decode cX0_findGap 12 = .ok (.aload_n 0, 1) := by decide +kernel
theorem dX0_findGap_13 : decode cX0_findGap 13 = .ok (.getfield 16, 3) := by decide +kernel
theorem dX0_findGap_16 : decode cX0_findGap 16 = .ok (.iload_n 1, 1) := by decide +kernel
theorem dX0_findGap_17 : decode cX0_findGap 17 = .ok (.invokevirtual 50, 3) := by decide +kernel
theorem dX0_findGap_20 : decode cX0_findGap 20 = .ok (.ifCond .ne 18, 3) := by decide +kernel
theorem dX0_findGap_23 : decode cX0_findGap 23 = .ok (.aload_n 0, 1) := by decide +kernel
theorem dX0_findGap_24 : decode cX0_findGap 24 = .ok (.getfield 16, 3) := by decide +kernel
theorem dX0_findGap_27 : decode cX0_findGap 27 = .ok (.iload_n 1, 1) := by decide +kernel
theorem dX0_findGap_28 : decode cX0_findGap 28 = .ok (.iconst 1, 1) := by decide +kernel
theorem dX0_findGap_29 : decode cX0_findGap 29 = .ok (.iadd, 1) := by decide +kernel
theorem dX0_findGap_30 : decode cX0_findGap 30 = .ok (.invokevirtual 50, 3) := by decide +kernel
theorem dX0_findGap_33 : decode cX0_findGap 33 = .ok (.ifCond .eq 5, 3) := by decide +kernel
theorem dX0_findGap_36 : decode cX0_findGap 36 = .ok (.iload_n 1, 1) := by decide +kernel
theorem dX0_findGap_37 : decode cX0_findGap 37 = .ok (.ireturn, 1) := by decide +kernel
theorem dX0_findGap_38 : decode cX0_findGap 38 = .ok (.iinc 1 1, 3) := by decide +kernel
theorem dX0_findGap_41 : decode cX0_findGap 41 = .ok (.goto (-39), 3) := by decide +kernel
theorem dX0_findGap_44 : decode cX0_findGap 44 = .ok (.iconst (-1), 1) := by decide +kernel
theorem dX0_findGap_45 : decode cX0_findGap 45 = .ok (.ireturn, 1) := by decide +kernel
set_option maxRecDepth 20000 in
theorem ggX0_roomToSpare_X2_at : GoodIn wsX0_roomToSpare wsX2_at := goodIn_r _ [15, 16, 22] (by decide +kernel) (by decide +kernel)
set_option maxRecDepth 20000 in
theorem gX0_roomToSpare_X2_at : GoodIn wsX0_roomToSpare (wsV RX0 50 RX2 yX2_at wsX2_at) := goodIn_app (goodIn_of _ (by decide +kernel)) ggX0_roomToSpare_X2_at
theorem dX0_roomToSpare_0 : decode cX0_roomToSpare 0 = .ok (.iconst 0, 1) := by decide +kernel
theorem dX0_roomToSpare_1 : decode cX0_roomToSpare 1 = .ok (.istore_n 1, 1) := by decide +kernel
theorem dX0_roomToSpare_2 : decode cX0_roomToSpare 2 = .ok (.iconst 0, 1) := by decide +kernel
theorem dX0_roomToSpare_3 : decode cX0_roomToSpare 3 = .ok (.istore_n 2, 1) := by decide +kernel
theorem dX0_roomToSpare_4 : decode cX0_roomToSpare 4 = .ok (.iconst 0, 1) := by decide +kernel
theorem dX0_roomToSpare_5 : decode cX0_roomToSpare 5 = .ok (.istore_n 3, 1) := by decide +kernel
theorem dX0_roomToSpare_6 : decode cX0_roomToSpare 6 = .ok (.iload_n 3, 1) := by decide +kernel
theorem dX0_roomToSpare_7 : decode cX0_roomToSpare 7 = .ok (.aload_n 0, 1) := by decide +kernel
theorem dX0_roomToSpare_8 : decode cX0_roomToSpare 8 = .ok (.getfield 29, 3) := by decide +kernel
theorem dX0_roomToSpare_11 : decode cX0_roomToSpare 11 = .ok (.if_icmp .ge 52, 3) := by decide +kernel
theorem dX0_roomToSpare_14 : decode cX0_roomToSpare 14 = .ok (.aload_n 0, 1) := by decide +kernel
theorem dX0_roomToSpare_15 : decode cX0_roomToSpare 15 = .ok (.getfield 16, 3) := by decide +kernel
theorem dX0_roomToSpare_18 : decode cX0_roomToSpare 18 = .ok (.iload_n 3, 1) := by decide +kernel
theorem dX0_roomToSpare_19 : decode cX0_roomToSpare 19 = .ok (.invokevirtual 50, 3) := by decide +kernel
theorem dX0_roomToSpare_22 : decode cX0_roomToSpare 22 = .ok (.ifCond .ne 14, 3) := by decide +kernel
theorem dX0_roomToSpare_25 : decode cX0_roomToSpare 25 = .ok (.aload_n 0, 1) := by decide +kernel
theorem dX0_roomToSpare_26 : decode cX0_roomToSpare 26 = .ok (.getfield 20, 3) := by decide +kernel
theorem dX0_roomToSpare_29 : decode cX0_roomToSpare 29 = .ok (.iload_n 3, 1) := by decide +kernel
theorem dX0_roomToSpare_30 : decode cX0_roomToSpare 30 = .ok (.invokevirtual 50, 3) := by decide +kernel
theorem dX0_roomToSpare_33 : decode cX0_roomToSpare 33 = .ok (.goto 4, 3) := by decide +kernel
theorem dX0_roomToSpare_36 : decode cX0_roomToSpare 36 = .ok (.iconst 0, 1) := by decide +kernel
theorem dX0_roomToSpare_37 : decode cX0_roomToSpare 37 = .ok (.istore 4, 2) := by decide +kernel
theorem dX0_roomToSpare_39 : decode cX0_roomToSpare 39 = .ok (.iload_n 2, 1) := by decide +kernel
theorem dX0_roomToSpare_40 : decode cX0_roomToSpare 40 = .ok (.iload 4, 2) := by decide +kernel
theorem dX0_roomToSpare_42 : decode cX0_roomToSpare 42 = .ok (.iload_n 1, 1) := by decide +kernel
theorem dX0_roomToSpare_43 : decode cX0_roomToSpare 43 = .ok (.invokestatic 64, 3) := by decide +kernel
theorem dX0_roomToSpare_46 : decode cX0_roomToSpare 46 = .ok (.invokestatic 70, 3) := by decide +kernel
theorem dX0_roomToSpare_49 : decode cX0_roomToSpare 49 = .ok (.istore_n 2, 1) := by decide +kernel
theorem dX0_roomToSpare_50 : decode cX0_roomToSpare 50 = .ok (.iload_n 1, 1) := by decide +kernel
theorem dX0_roomToSpare_51 : decode cX0_roomToSpare 51 = .ok (.iload 4, 2) := by decide +kernel
theorem dX0_roomToSpare_53 : decode cX0_roomToSpare 53 = .ok (.invokestatic 70, 3) := by decide +kernel
theorem dX0_roomToSpare_56 : decode cX0_roomToSpare 56 = .ok (.istore_n 1, 1) := by decide +kernel
theorem dX0_roomToSpare_57 : decode cX0_roomToSpare 57 = .ok (.iinc 3 1, 3) := by decide +kernel
theorem dX0_roomToSpare_60 : decode cX0_roomToSpare 60 = .ok (.goto (-54), 3) := by decide +kernel
theorem dX0_roomToSpare_63 : decode cX0_roomToSpare 63 = .ok (.iload_n 1, 1) := by decide +kernel
theorem dX0_roomToSpare_64 : decode cX0_roomToSpare 64 = .ok (.iconst 2, 1) := by decide +kernel
theorem dX0_roomToSpare_65 : decode cX0_roomToSpare 65 = .ok (.idiv, 1) := by decide +kernel
theorem dX0_roomToSpare_66 : decode cX0_roomToSpare 66 = .ok (.iload_n 2, 1) := by decide +kernel
theorem dX0_roomToSpare_67 : decode cX0_roomToSpare 67 = .ok (.invokestatic 70, 3) := by decide +kernel
theorem dX0_roomToSpare_70 : decode cX0_roomToSpare 70 = .ok (.ireturn, 1) := by decide +kernel
set_option maxRecDepth 20000 in
theorem ggX0_longestEmpty_X2_at : GoodIn wsX0_longestEmpty wsX2_at := goodIn_r _ [12, 13, 19] (by decide +kernel) (by decide +kernel)
set_option maxRecDepth 20000 in
theorem gX0_longestEmpty_X2_at : GoodIn wsX0_longestEmpty (wsV RX0 50 RX2 yX2_at wsX2_at) := goodIn_app (goodIn_of _ (by decide +kernel)) ggX0_longestEmpty_X2_at
theorem dX0_longestEmpty_0 : decode cX0_longestEmpty 0 = .ok (.iconst 0, 1) := by decide +kernel
theorem dX0_longestEmpty_1 : decode cX0_longestEmpty 1 = .ok (.istore_n 1, 1) := by decide +kernel
theorem dX0_longestEmpty_2 : decode cX0_longestEmpty 2 = .ok (.iconst 0, 1) := by decide +kernel
theorem dX0_longestEmpty_3 : decode cX0_longestEmpty 3 = .ok (.istore_n 2, 1) := by decide +kernel
theorem dX0_longestEmpty_4 : decode cX0_longestEmpty 4 = .ok (.iload_n 2, 1) := by decide +kernel
theorem dX0_longestEmpty_5 : decode cX0_longestEmpty 5 = .ok (.aload_n 0, 1) := by decide +kernel
theorem dX0_longestEmpty_6 : decode cX0_longestEmpty 6 = .ok (.getfield 29, 3) := by decide +kernel
theorem dX0_longestEmpty_9 : decode cX0_longestEmpty 9 = .ok (.if_icmp .ge 33, 3) := by decide +kernel
theorem dX0_longestEmpty_12 : decode cX0_longestEmpty 12 = .ok (.aload_n 0, 1) := by decide +kernel
theorem dX0_longestEmpty_13 : decode cX0_longestEmpty 13 = .ok (.getfield 16, 3) := by decide +kernel
theorem dX0_longestEmpty_16 : decode cX0_longestEmpty 16 = .ok (.iload_n 2, 1) := by decide +kernel
theorem dX0_longestEmpty_17 : decode cX0_longestEmpty 17 = .ok (.invokevirtual 50, 3) := by decide +kernel
theorem dX0_longestEmpty_20 : decode cX0_longestEmpty 20 = .ok (.ifCond .ne 16, 3) := by decide +kernel
theorem dX0_longestEmpty_23 : decode cX0_longestEmpty 23 = .ok (.iload_n 1, 1) := by decide +kernel
theorem dX0_longestEmpty_24 : decode cX0_longestEmpty 24 = .ok (.aload_n 0, 1) := by decide +kernel
theorem dX0_longestEmpty_25 : decode cX0_longestEmpty 25 = .ok (.getfield 20, 3) := by decide +kernel
theorem dX0_longestEmpty_28 : decode cX0_longestEmpty 28 = .ok (.iload_n 2, 1) := by decide +kernel
theorem dX0_longestEmpty_29 : decode cX0_longestEmpty 29 = .ok (.invokevirtual 50, 3) := by decide +kernel
theorem dX0_longestEmpty_32 : decode cX0_longestEmpty 32 = .ok (.invokestatic 70, 3) := by decide +kernel
theorem dX0_longestEmpty_35 : decode cX0_longestEmpty 35 = .ok (.istore_n 1, 1) := by decide +kernel
theorem dX0_longestEmpty_36 : decode cX0_longestEmpty 36 = .ok (.iinc 2 1, 3) := by decide +kernel
theorem dX0_longestEmpty_39 : decode cX0_longestEmpty 39 = .ok (.goto (-35), 3) := by decide +kernel
theorem dX0_longestEmpty_42 : decode cX0_longestEmpty 42 = .ok (.iload_n 1, 1) := by decide +kernel
theorem dX0_longestEmpty_43 : decode cX0_longestEmpty 43 = .ok (.ireturn, 1) := by decide +kernel
set_option maxRecDepth 20000 in
theorem ggX0_emptyBlocks_X2_at : GoodIn wsX0_emptyBlocks wsX2_at := goodIn_r _ [8, 9, 15] (by decide +kernel) (by decide +kernel)
set_option maxRecDepth 20000 in
theorem gX0_emptyBlocks_X2_at : GoodIn wsX0_emptyBlocks (wsV RX0 50 RX2 yX2_at wsX2_at) := goodIn_app (goodIn_of _ (by decide +kernel)) ggX0_emptyBlocks_X2_at
theorem dX0_emptyBlocks_0 : decode cX0_emptyBlocks 0 = .ok (.iconst 0, 1) := by decide +kernel
theorem dX0_emptyBlocks_1 : decode cX0_emptyBlocks 1 = .ok (.istore_n 1, 1) := by decide +kernel
theorem dX0_emptyBlocks_2 : decode cX0_emptyBlocks 2 = .ok (.iconst 0, 1) := by decide +kernel
theorem dX0_emptyBlocks_3 : decode cX0_emptyBlocks 3 = .ok (.istore_n 2, 1) := by decide +kernel
theorem dX0_emptyBlocks_4 : decode cX0_emptyBlocks 4 = .ok (.iload_n 2, 1) := by decide +kernel
theorem dX0_emptyBlocks_5 : decode cX0_emptyBlocks 5 = .ok (.aload_n 0, 1) := by decide +kernel
theorem dX0_emptyBlocks_6 : decode cX0_emptyBlocks 6 = .ok (.getfield 29, 3) := by decide +kernel
theorem dX0_emptyBlocks_9 : decode cX0_emptyBlocks 9 = .ok (.if_icmp .ge 31, 3) := by decide +kernel
theorem dX0_emptyBlocks_12 : decode cX0_emptyBlocks 12 = .ok (.aload_n 0, 1) := by decide +kernel
theorem dX0_emptyBlocks_13 : decode cX0_emptyBlocks 13 = .ok (.getfield 16, 3) := by decide +kernel
theorem dX0_emptyBlocks_16 : decode cX0_emptyBlocks 16 = .ok (.iload_n 2, 1) := by decide +kernel
theorem dX0_emptyBlocks_17 : decode cX0_emptyBlocks 17 = .ok (.invokevirtual 50, 3) := by decide +kernel
theorem dX0_emptyBlocks_20 : decode cX0_emptyBlocks 20 = .ok (.ifCond .ne 14, 3) := by decide +kernel
theorem dX0_emptyBlocks_23 : decode cX0_emptyBlocks 23 = .ok (.iload_n 1, 1) := by decide +kernel
theorem dX0_emptyBlocks_24 : decode cX0_emptyBlocks 24 = .ok (.aload_n 0, 1) := by decide +kernel
theorem dX0_emptyBlocks_25 : decode cX0_emptyBlocks 25 = .ok (.getfield 20, 3) := by decide +kernel
theorem dX0_emptyBlocks_28 : decode cX0_emptyBlocks 28 = .ok (.iload_n 2, 1) := by decide +kernel
theorem dX0_emptyBlocks_29 : decode cX0_emptyBlocks 29 = .ok (.invokevirtual 50, 3) := by decide +kernel
theorem dX0_emptyBlocks_32 : decode cX0_emptyBlocks 32 = .ok (.iadd, 1) := by decide +kernel
theorem dX0_emptyBlocks_33 : decode cX0_emptyBlocks 33 = .ok (.istore_n 1, 1) := by decide +kernel
theorem dX0_emptyBlocks_34 : decode cX0_emptyBlocks 34 = .ok (.iinc 2 1, 3) := by decide +kernel
theorem dX0_emptyBlocks_37 : decode cX0_emptyBlocks 37 = .ok (.goto (-33), 3) := by decide +kernel
theorem dX0_emptyBlocks_40 : decode cX0_emptyBlocks 40 = .ok (.iload_n 1, 1) := by decide +kernel
theorem dX0_emptyBlocks_41 : decode cX0_emptyBlocks 41 = .ok (.ireturn, 1) := by decide +kernel
theorem dX1_init_0 : decode cX1_init 0 = .ok (.aload_n 0, 1) := by decide +kernel
theorem dX1_init_1 : decode cX1_init 1 = .ok (.invokespecial 3, 3) := by decide +kernel
theorem dX1_init_4 : decode cX1_init 4 = .ok (.aload_n 0, 1) := by decide +kernel
theorem dX1_init_5 : decode cX1_init 5 = .ok (.iconst 1, 1) := by decide +kernel
theorem dX1_init_6 : decode cX1_init 6 = .ok (.putfield 9, 3) := by decide +kernel
theorem dX1_init_9 : decode cX1_init 9 = .ok (.aload_n 0, 1) := by decide +kernel
theorem dX1_init_10 : decode cX1_init 10 = .ok (.iconst (-1), 1) := by decide +kernel
theorem dX1_init_11 : decode cX1_init 11 = .ok (.putfield 15, 3) := by decide +kernel
theorem dX1_init_14 : decode cX1_init 14 = .ok (.aload_n 0, 1) := by decide +kernel
theorem dX1_init_15 : decode cX1_init 15 = .ok (.iconst 0, 1) := by decide +kernel
theorem dX1_init_16 : decode cX1_init 16 = .ok (.putfield 19, 3) := by decide +kernel
theorem dX1_init_19 : decode cX1_init 19 = .ok (.return_, 1) := by decide +kernel
theorem dX1_isUp_0 : decode cX1_isUp 0 = .ok (.aload_n 0, 1) := by decide +kernel
theorem dX1_isUp_1 : decode cX1_isUp 1 = .ok (.getfield 9, 3) := by decide +kernel
theorem dX1_isUp_4 : decode cX1_isUp 4 = .ok (.ireturn, 1) := by decide +kernel
theorem dX1_failAfter_0 : decode cX1_failAfter 0 = .ok (.aload_n 0, 1) := by decide +kernel
theorem dX1_failAfter_1 : decode cX1_failAfter 1 = .ok (.iload_n 1, 1) := by decide +kernel
theorem dX1_failAfter_2 : decode cX1_failAfter 2 = .ok (.putfield 15, 3) := by decide +kernel
theorem dX1_failAfter_5 : decode cX1_failAfter 5 = .ok (.return_, 1) := by decide +kernel
theorem dX1_comeAgain_0 : decode cX1_comeAgain 0 = .ok (.aload_n 0, 1) := by decide +kernel
theorem dX1_comeAgain_1 : decode cX1_comeAgain 1 = .ok (.iconst 1, 1) := by decide +kernel
theorem dX1_comeAgain_2 : decode cX1_comeAgain 2 = .ok (.putfield 9, 3) := by decide +kernel
theorem dX1_comeAgain_5 : decode cX1_comeAgain 5 = .ok (.aload_n 0, 1) := by decide +kernel
theorem dX1_comeAgain_6 : decode cX1_comeAgain 6 = .ok (.iconst (-1), 1) := by decide +kernel
theorem dX1_comeAgain_7 : decode cX1_comeAgain 7 = .ok (.putfield 15, 3) := by decide +kernel
theorem dX1_comeAgain_10 : decode cX1_comeAgain 10 = .ok (.return_, 1) := by decide +kernel
theorem dX1_countWrite_0 : decode cX1_countWrite 0 = .ok (.aload_n 0, 1) := by decide +kernel
theorem dX1_countWrite_1 : decode cX1_countWrite 1 = .ok (.getfield 15, 3) := by decide +kernel
theorem dX1_countWrite_4 : decode cX1_countWrite 4 = .ok (.ifCond .ne 8, 3) := by decide +kernel
theorem dX1_countWrite_7 : decode cX1_countWrite 7 = .ok (.aload_n 0, 1) := by decide +kernel
theorem dX1_countWrite_8 : decode cX1_countWrite 8 = .ok (.iconst 0, 1) := by decide +kernel
theorem dX1_countWrite_9 : decode cX1_countWrite 9 = .ok (.putfield 9, 3) := by decide +kernel
theorem dX1_countWrite_12 : decode cX1_countWrite 12 = .ok (.aload_n 0, 1) := by decide +kernel
theorem dX1_countWrite_13 : decode cX1_countWrite 13 = .ok (.getfield 9, 3) := by decide +kernel
theorem dX1_countWrite_16 : decode cX1_countWrite 16 = .ok (.ifCond .ne 5, 3) := by decide +kernel
theorem dX1_countWrite_19 : decode cX1_countWrite 19 = .ok (.iconst 0, 1) := by decide +kernel
theorem dX1_countWrite_20 : decode cX1_countWrite 20 = .ok (.ireturn, 1) := by decide +kernel
theorem dX1_countWrite_21 : decode cX1_countWrite 21 = .ok (.aload_n 0, 1) := by decide +kernel
theorem dX1_countWrite_22 : decode cX1_countWrite 22 = .ok (.getfield 15, 3) := by decide +kernel
theorem dX1_countWrite_25 : decode cX1_countWrite 25 = .ok (.ifCond .le 13, 3) := by decide +kernel
theorem dX1_countWrite_28 : decode cX1_countWrite 28 = .ok (.aload_n 0, 1) := by decide +kernel
theorem dX1_countWrite_29 : decode cX1_countWrite 29 = .ok (.dup, 1) := by decide +kernel
theorem dX1_countWrite_30 : decode cX1_countWrite 30 = .ok (.getfield 15, 3) := by decide +kernel
theorem dX1_countWrite_33 : decode cX1_countWrite 33 = .ok (.iconst 1, 1) := by decide +kernel
theorem dX1_countWrite_34 : decode cX1_countWrite 34 = .ok (.isub, 1) := by decide +kernel
theorem dX1_countWrite_35 : decode cX1_countWrite 35 = .ok (.putfield 15, 3) := by decide +kernel
theorem dX1_countWrite_38 : decode cX1_countWrite 38 = .ok (.aload_n 0, 1) := by decide +kernel
theorem dX1_countWrite_39 : decode cX1_countWrite 39 = .ok (.dup, 1) := by decide +kernel
theorem dX1_countWrite_40 : decode cX1_countWrite 40 = .ok (.getfield 19, 3) := by decide +kernel
theorem dX1_countWrite_43 : decode cX1_countWrite 43 = .ok (.iconst 1, 1) := by decide +kernel
theorem dX1_countWrite_44 : decode cX1_countWrite 44 = .ok (.iadd, 1) := by decide +kernel
theorem dX1_countWrite_45 : decode cX1_countWrite 45 = .ok (.putfield 19, 3) := by decide +kernel
theorem dX1_countWrite_48 : decode cX1_countWrite 48 = .ok (.iconst 1, 1) := by decide +kernel
theorem dX1_countWrite_49 : decode cX1_countWrite 49 = .ok (.ireturn, 1) := by decide +kernel
theorem dX2_init_0 : decode cX2_init 0 = .ok (.aload_n 0, 1) := by decide +kernel
theorem dX2_init_1 : decode cX2_init 1 = .ok (.invokespecial 1, 3) := by decide +kernel
theorem dX2_init_4 : decode cX2_init 4 = .ok (.aload_n 0, 1) := by decide +kernel
theorem dX2_init_5 : decode cX2_init 5 = .ok (.iconst 0, 1) := by decide +kernel
theorem dX2_init_6 : decode cX2_init 6 = .ok (.iload_n 1, 1) := by decide +kernel
theorem dX2_init_7 : decode cX2_init 7 = .ok (.invokestatic 7, 3) := by decide +kernel
theorem dX2_init_10 : decode cX2_init 10 = .ok (.newarray .int, 2) := by decide +kernel
theorem dX2_init_12 : decode cX2_init 12 = .ok (.putfield 13, 3) := by decide +kernel
theorem dX2_init_15 : decode cX2_init 15 = .ok (.return_, 1) := by decide +kernel
theorem dX2_at_0 : decode cX2_at 0 = .ok (.iload_n 1, 1) := by decide +kernel
theorem dX2_at_1 : decode cX2_at 1 = .ok (.ifCond .lt 21, 3) := by decide +kernel
theorem dX2_at_4 : decode cX2_at 4 = .ok (.iload_n 1, 1) := by decide +kernel
theorem dX2_at_5 : decode cX2_at 5 = .ok (.aload_n 0, 1) := by decide +kernel
theorem dX2_at_6 : decode cX2_at 6 = .ok (.getfield 13, 3) := by decide +kernel
theorem dX2_at_9 : decode cX2_at 9 = .ok (.arraylength, 1) := by decide +kernel
theorem dX2_at_10 : decode cX2_at 10 = .ok (.if_icmp .ge 12, 3) := by decide +kernel
theorem dX2_at_13 : decode cX2_at 13 = .ok (.aload_n 0, 1) := by decide +kernel
theorem dX2_at_14 : decode cX2_at 14 = .ok (.getfield 13, 3) := by decide +kernel
theorem dX2_at_17 : decode cX2_at 17 = .ok (.iload_n 1, 1) := by decide +kernel
theorem dX2_at_18 : decode cX2_at 18 = .ok (.iaload, 1) := by decide +kernel
theorem dX2_at_19 : decode cX2_at 19 = .ok (.goto 4, 3) := by decide +kernel
theorem dX2_at_22 : decode cX2_at 22 = .ok (.iconst 0, 1) := by decide +kernel
theorem dX2_at_23 : decode cX2_at 23 = .ok (.ireturn, 1) := by decide +kernel
theorem dX2_set_0 : decode cX2_set 0 = .ok (.iload_n 1, 1) := by decide +kernel
theorem dX2_set_1 : decode cX2_set 1 = .ok (.ifCond .lt 19, 3) := by decide +kernel
theorem dX2_set_4 : decode cX2_set 4 = .ok (.iload_n 1, 1) := by decide +kernel
theorem dX2_set_5 : decode cX2_set 5 = .ok (.aload_n 0, 1) := by decide +kernel
theorem dX2_set_6 : decode cX2_set 6 = .ok (.getfield 13, 3) := by decide +kernel
theorem dX2_set_9 : decode cX2_set 9 = .ok (.arraylength, 1) := by decide +kernel
theorem dX2_set_10 : decode cX2_set 10 = .ok (.if_icmp .ge 10, 3) := by decide +kernel
theorem dX2_set_13 : decode cX2_set 13 = .ok (.aload_n 0, 1) := by decide +kernel
theorem dX2_set_14 : decode cX2_set 14 = .ok (.getfield 13, 3) := by decide +kernel
theorem dX2_set_17 : decode cX2_set 17 = .ok (.iload_n 1, 1) := by decide +kernel
theorem dX2_set_18 : decode cX2_set 18 = .ok (.iload_n 2, 1) := by decide +kernel
theorem dX2_set_19 : decode cX2_set 19 = .ok (.iastore, 1) := by decide +kernel
theorem dX2_set_20 : decode cX2_set 20 = .ok (.return_, 1) := by decide +kernel
set_option maxRecDepth 20000 in
theorem ggX2_takeOver_X2_at : GoodIn wsX2_takeOver wsX2_at := goodIn_r _ [6, 1, 7] (by decide +kernel) (by decide +kernel)
set_option maxRecDepth 20000 in
theorem gX2_takeOver_X2_at : GoodIn wsX2_takeOver (wsV RX2 19 RX2 yX2_at wsX2_at) := goodIn_app (goodIn_of _ (by decide +kernel)) ggX2_takeOver_X2_at
theorem dX2_takeOver_0 : decode cX2_takeOver 0 = .ok (.iconst 0, 1) := by decide +kernel
theorem dX2_takeOver_1 : decode cX2_takeOver 1 = .ok (.istore_n 2, 1) := by decide +kernel
theorem dX2_takeOver_2 : decode cX2_takeOver 2 = .ok (.iload_n 2, 1) := by decide +kernel
theorem dX2_takeOver_3 : decode cX2_takeOver 3 = .ok (.aload_n 0, 1) := by decide +kernel
theorem dX2_takeOver_4 : decode cX2_takeOver 4 = .ok (.getfield 13, 3) := by decide +kernel
theorem dX2_takeOver_7 : decode cX2_takeOver 7 = .ok (.arraylength, 1) := by decide +kernel
theorem dX2_takeOver_8 : decode cX2_takeOver 8 = .ok (.if_icmp .ge 20, 3) := by decide +kernel
theorem dX2_takeOver_11 : decode cX2_takeOver 11 = .ok (.aload_n 0, 1) := by decide +kernel
theorem dX2_takeOver_12 : decode cX2_takeOver 12 = .ok (.getfield 13, 3) := by decide +kernel
theorem dX2_takeOver_15 : decode cX2_takeOver 15 = .ok (.iload_n 2, 1) := by decide +kernel
theorem dX2_takeOver_16 : decode cX2_takeOver 16 = .ok (.aload_n 1, 1) := by decide +kernel
theorem dX2_takeOver_17 : decode cX2_takeOver 17 = .ok (.iload_n 2, 1) := by decide +kernel
theorem dX2_takeOver_18 : decode cX2_takeOver 18 = .ok (.invokevirtual 19, 3) := by decide +kernel
theorem dX2_takeOver_21 : decode cX2_takeOver 21 = .ok (.iastore, 1) := by decide +kernel
theorem dX2_takeOver_22 : decode cX2_takeOver 22 = .ok (.iinc 2 1, 3) := by decide +kernel
theorem dX2_takeOver_25 : decode cX2_takeOver 25 = .ok (.goto (-23), 3) := by decide +kernel
theorem dX2_takeOver_28 : decode cX2_takeOver 28 = .ok (.return_, 1) := by decide +kernel
set_option maxRecDepth 20000 in
theorem ggX3_init_X1_init : GoodIn wsX3_init wsX1_init := goodIn_r _ [21, 22, 2, 3, 23, 24, 25, 63, 64, 65] (by decide +kernel) (by decide +kernel)
set_option maxRecDepth 20000 in
theorem gX3_init_X1_init : GoodIn wsX3_init (wsX1_init) := ggX3_init_X1_init
set_option maxRecDepth 20000 in
theorem ggX3_init_X2_init : GoodIn wsX3_init wsX2_init := goodIn_r _ [28, 29, 2, 3, 30, 31, 32, 33, 34, 35, 72] (by decide +kernel) (by decide +kernel)
set_option maxRecDepth 20000 in
theorem gX3_init_X2_init : GoodIn wsX3_init (wsX2_init) := ggX3_init_X2_init
set_option maxRecDepth 20000 in
theorem ggX3_init_X0_init : GoodIn wsX3_init wsX0_init := goodIn_r _ [38, 39, 2, 3, 40, 9, 10, 41, 42, 43, 44, 45, 46, 27, 28, 29, 30, 31, 32, 33, 34, 35, 72, 73, 74, 75, 76, 77] (by decide +kernel) (by decide +kernel)
set_option maxRecDepth 20000 in
theorem gX3_init_X0_init : GoodIn wsX3_init (wsX0_init) := ggX3_init_X0_init
set_option maxRecDepth 20000 in
theorem ggX3_init_X0_addEmpty : GoodIn wsX3_init wsX0_addEmpty := goodIn_r _ [50, 51, 52, 53, 14, 54, 45, 41, 42, 43, 44, 55, 56, 57, 10, 58, 35, 59, 60, 61, 62, 73, 74, 75, 76, 77, 72] (by decide +kernel) (by decide +kernel)
set_option maxRecDepth 20000 in
theorem gX3_init_X0_addEmpty : GoodIn wsX3_init (wsV RX3 43 RX0 yX0_addEmpty wsX0_addEmpty) := goodIn_app (goodIn_of _ (by decide +kernel)) ggX3_init_X0_addEmpty
theorem dX3_init_0 : decode cX3_init 0 = .ok (.aload_n 0, 1) := by decide +kernel
theorem dX3_init_1 : decode cX3_init 1 = .ok (.invokespecial 1, 3) := by decide +kernel
theorem dX3_init_4 : decode cX3_init 4 = .ok (.aload_n 0, 1) := by decide +kernel
theorem dX3_init_5 : decode cX3_init 5 = .ok (.new 7, 3) := by decide +kernel
theorem dX3_init_8 : decode cX3_init 8 = .ok (.dup, 1) := by decide +kernel
theorem dX3_init_9 : decode cX3_init 9 = .ok (.invokespecial 9, 3) := by decide +kernel
theorem dX3_init_12 : decode cX3_init 12 = .ok (.putfield 10, 3) := by decide +kernel
theorem dX3_init_15 : decode cX3_init 15 = .ok (.aload_n 0, 1) := by decide +kernel
theorem dX3_init_16 : decode cX3_init 16 = .ok (.new 16, 3) := by decide +kernel
theorem dX3_init_19 : decode cX3_init 19 = .ok (.dup, 1) := by decide +kernel
theorem dX3_init_20 : decode cX3_init 20 = .ok (.bipush 48, 2) := by decide +kernel
theorem dX3_init_22 : decode cX3_init 22 = .ok (.invokespecial 18, 3) := by decide +kernel
theorem dX3_init_25 : decode cX3_init 25 = .ok (.putfield 21, 3) := by decide +kernel
theorem dX3_init_28 : decode cX3_init 28 = .ok (.aload_n 0, 1) := by decide +kernel
theorem dX3_init_29 : decode cX3_init 29 = .ok (.new 25, 3) := by decide +kernel
theorem dX3_init_32 : decode cX3_init 32 = .ok (.dup, 1) := by decide +kernel
theorem dX3_init_33 : decode cX3_init 33 = .ok (.invokespecial 27, 3) := by decide +kernel
theorem dX3_init_36 : decode cX3_init 36 = .ok (.putfield 28, 3) := by decide +kernel
theorem dX3_init_39 : decode cX3_init 39 = .ok (.aload_n 0, 1) := by decide +kernel
theorem dX3_init_40 : decode cX3_init 40 = .ok (.new 25, 3) := by decide +kernel
theorem dX3_init_43 : decode cX3_init 43 = .ok (.dup, 1) := by decide +kernel
theorem dX3_init_44 : decode cX3_init 44 = .ok (.invokespecial 27, 3) := by decide +kernel
theorem dX3_init_47 : decode cX3_init 47 = .ok (.putfield 32, 3) := by decide +kernel
theorem dX3_init_50 : decode cX3_init 50 = .ok (.aload_n 0, 1) := by decide +kernel
theorem dX3_init_51 : decode cX3_init 51 = .ok (.iconst 0, 1) := by decide +kernel
theorem dX3_init_52 : decode cX3_init 52 = .ok (.putfield 35, 3) := by decide +kernel
theorem dX3_init_55 : decode cX3_init 55 = .ok (.aload_n 0, 1) := by decide +kernel
theorem dX3_init_56 : decode cX3_init 56 = .ok (.iconst (-1), 1) := by decide +kernel
theorem dX3_init_57 : decode cX3_init 57 = .ok (.putfield 39, 3) := by decide +kernel
theorem dX3_init_60 : decode cX3_init 60 = .ok (.aload_n 0, 1) := by decide +kernel
theorem dX3_init_61 : decode cX3_init 61 = .ok (.getfield 28, 3) := by decide +kernel
theorem dX3_init_64 : decode cX3_init 64 = .ok (.bipush 48, 2) := by decide +kernel
theorem dX3_init_66 : decode cX3_init 66 = .ok (.invokevirtual 43, 3) := by decide +kernel
theorem dX3_init_69 : decode cX3_init 69 = .ok (.return_, 1) := by decide +kernel
set_option maxRecDepth 20000 in
theorem ggX3_enter_X3_requirePower : GoodIn wsX3_enter wsX3_requirePower := goodIn_ca (goodIn_r _ [12, 3, 4, 13, 14, 15, 16, 17, 18, 19, 129, 130, 131, 132, 133, 134, 135, 136, 137] (by decide +kernel) (by decide +kernel)) (goodIn_sub (fun _ h => List.mem_cons_of_mem _ (List.mem_append_left _ (List.mem_append_right _ h))) (by decide +kernel))
set_option maxRecDepth 20000 in
theorem gX3_enter_X3_requirePower : GoodIn wsX3_enter (wsV RX3 46 RX3 yX3_requirePower wsX3_requirePower) := goodIn_app (goodIn_of _ (by decide +kernel)) ggX3_enter_X3_requirePower
set_option maxRecDepth 20000 in
theorem ggX3_enter_X3_requireName : GoodIn wsX3_enter wsX3_requireName := goodIn_ca (goodIn_r _ [23, 1, 2] (by decide +kernel) (by decide +kernel)) (goodIn_sub (fun _ h => List.mem_cons_of_mem _ (List.mem_append_left _ (List.mem_append_left _ (List.mem_append_right _ h)))) (by decide +kernel))
set_option maxRecDepth 20000 in
theorem gX3_enter_X3_requireName : GoodIn wsX3_enter (wsV RX3 49 RX3 yX3_requireName wsX3_requireName) := goodIn_app (goodIn_of _ (by decide +kernel)) ggX3_enter_X3_requireName
set_option maxRecDepth 20000 in
theorem ggX3_enter_X0_leastFreeHandle : GoodIn wsX3_enter wsX0_leastFreeHandle := goodIn_r _ [28, 29, 30, 31, 27, 32, 33, 34, 35, 36, 37, 38, 39, 40, 41, 138, 139, 140, 141, 142, 143] (by decide +kernel) (by decide +kernel)
set_option maxRecDepth 20000 in
theorem gX3_enter_X0_leastFreeHandle : GoodIn wsX3_enter (wsV RX3 59 RX0 yX0_leastFreeHandle wsX0_leastFreeHandle) := goodIn_app (goodIn_of _ (by decide +kernel)) ggX3_enter_X0_leastFreeHandle
set_option maxRecDepth 20000 in
theorem ggX3_enter_X0_roomToSpare : GoodIn wsX3_enter wsX0_roomToSpare := goodIn_r _ [45, 33, 34, 46, 47, 48, 49, 50, 51, 52, 53, 36, 37, 38, 39, 40, 41, 138, 139, 140, 141, 142, 143] (by decide +kernel) (by decide +kernel)
set_option maxRecDepth 20000 in
theorem gX3_enter_X0_roomToSpare : GoodIn wsX3_enter (wsV RX3 68 RX0 yX0_roomToSpare wsX0_roomToSpare) := goodIn_app (goodIn_of _ (by decide +kernel)) ggX3_enter_X0_roomToSpare
set_option maxRecDepth 20000 in
theorem ggX3_enter_X0_findRoom : GoodIn wsX3_enter wsX0_findRoom := goodIn_r _ [57, 33, 34, 46, 36, 37, 38, 39, 40, 41, 138, 139, 140, 141, 142, 143] (by decide +kernel) (by decide +kernel)
set_option maxRecDepth 20000 in
theorem gX3_enter_X0_findRoom : GoodIn wsX3_enter (wsV RX3 71 RX0 yX0_findRoom wsX0_findRoom) := goodIn_app (goodIn_of _ (by decide +kernel)) ggX3_enter_X0_findRoom
set_option maxRecDepth 20000 in
theorem ggX3_enter_X3_draftInPlaceOf : GoodIn wsX3_enter wsX3_draftInPlaceOf := goodIn_r _ [61, 62, 7, 63, 64, 65, 27, 66, 33, 67, 68, 69, 70, 71, 72, 73, 74, 34, 36, 37, 38, 39, 40, 41, 75, 76, 77, 78, 46, 79, 80, 81, 82, 83, 84, 85, 86, 87, 35, 88, 89, 90, 91, 92, 93, 94, 95, 96, 97, 98, 99, 100, 101, 102, 103, 104, 105, 129, 130, 131, 132, 133, 134, 138, 139, 140, 141, 142, 143] (by decide +kernel) (by decide +kernel)
set_option maxRecDepth 20000 in
theorem gX3_enter_X3_draftInPlaceOf : GoodIn wsX3_enter (wsV RX3 80 RX3 yX3_draftInPlaceOf wsX3_draftInPlaceOf) := goodIn_app (goodIn_of _ (by decide +kernel)) ggX3_enter_X3_draftInPlaceOf
set_option maxRecDepth 20000 in
theorem ggX3_enter_X3_requireFewEntries : GoodIn wsX3_enter wsX3_requireFewEntries := goodIn_ca (goodIn_r _ [109, 5, 6, 62, 102, 103, 104, 27, 105, 33, 129, 130, 131, 132, 133, 134, 138, 139, 140, 141, 142] (by decide +kernel) (by decide +kernel)) (goodIn_sub (fun _ h => List.mem_cons_of_mem _ (List.mem_append_right _ h)) (by decide +kernel))
set_option maxRecDepth 20000 in
theorem gX3_enter_X3_requireFewEntries : GoodIn wsX3_enter (wsV RX3 84 RX3 yX3_requireFewEntries wsX3_requireFewEntries) := goodIn_app (goodIn_of _ (by decide +kernel)) ggX3_enter_X3_requireFewEntries
set_option maxRecDepth 20000 in
theorem ggX3_enter_X3_change : GoodIn wsX3_enter wsX3_change := goodIn_r _ [113, 62, 13, 7, 102, 103, 104, 27, 105, 33, 114, 115, 116, 17, 117, 118, 19, 119, 120, 121, 122, 123, 34, 46, 83, 35, 124, 125, 126, 39, 127, 41, 128, 37, 38, 40, 129, 130, 131, 132, 133, 134, 138, 139, 140, 141, 142, 135, 136, 137, 143] (by decide +kernel) (by decide +kernel)
set_option maxRecDepth 20000 in
theorem gX3_enter_X3_change : GoodIn wsX3_enter (wsV RX3 87 RX3 yX3_change wsX3_change) := goodIn_app (goodIn_of _ (by decide +kernel)) ggX3_enter_X3_change
theorem dX3_enter_0 : decode cX3_enter 0 = .ok (.aload_n 0, 1) := by decide +kernel
theorem dX3_enter_1 : decode cX3_enter 1 = .ok (.invokevirtual 46, 3) := by decide +kernel
theorem dX3_enter_4 : decode cX3_enter 4 = .ok (.aload_n 0, 1) := by decide +kernel
theorem dX3_enter_5 : decode cX3_enter 5 = .ok (.iload_n 1, 1) := by decide +kernel
theorem dX3_enter_6 : decode cX3_enter 6 = .ok (.invokevirtual 49, 3) := by decide +kernel
theorem dX3_enter_9 : decode cX3_enter 9 = .ok (.iload_n 2, 1) := by decide +kernel
theorem dX3_enter_10 : decode cX3_enter 10 = .ok (.ifCond .lt 9, 3) := by decide +kernel
theorem dX3_enter_13 : decode cX3_enter 13 = .ok (.iload_n 2, 1) := by decide +kernel
theorem dX3_enter_14 : decode cX3_enter 14 = .ok (.bipush 48, 2) := by decide +kernel
theorem dX3_enter_16 : decode cX3_enter 16 = .ok (.if_icmp .le 13, 3) := by decide +kernel
theorem dX3_enter_19 : decode cX3_enter 19 = .ok (.new 52, 3) := by decide +kernel
theorem dX3_enter_22 : decode cX3_enter 22 = .ok (.dup, 1) := by decide +kernel
theorem dX3_enter_23 : decode cX3_enter 23 = .ok (.ldc 54, 2) := by decide +kernel
theorem dX3_enter_25 : decode cX3_enter 25 = .ok (.invokespecial 56, 3) := by decide +kernel
theorem dX3_enter_28 : decode cX3_enter 28 = .ok (.athrow, 1) := by decide +kernel
theorem dX3_enter_29 : decode cX3_enter 29 = .ok (.aload_n 0, 1) := by decide +kernel
theorem dX3_enter_30 : decode cX3_enter 30 = .ok (.getfield 28, 3) := by decide +kernel
theorem dX3_enter_33 : decode cX3_enter 33 = .ok (.invokevirtual 59, 3) := by decide +kernel
theorem dX3_enter_36 : decode cX3_enter 36 = .ok (.istore_n 3, 1) := by decide +kernel
theorem dX3_enter_37 : decode cX3_enter 37 = .ok (.iload_n 3, 1) := by decide +kernel
theorem dX3_enter_38 : decode cX3_enter 38 = .ok (.iconst (-1), 1) := by decide +kernel
theorem dX3_enter_39 : decode cX3_enter 39 = .ok (.if_icmp .ne 13, 3) := by decide +kernel
theorem dX3_enter_42 : decode cX3_enter 42 = .ok (.new 63, 3) := by decide +kernel
theorem dX3_enter_45 : decode cX3_enter 45 = .ok (.dup, 1) := by decide +kernel
theorem dX3_enter_46 : decode cX3_enter 46 = .ok (.ldc 65, 2) := by decide +kernel
theorem dX3_enter_48 : decode cX3_enter 48 = .ok (.invokespecial 67, 3) := by decide +kernel
theorem dX3_enter_51 : decode cX3_enter 51 = .ok (.athrow, 1) := by decide +kernel
theorem dX3_enter_52 : decode cX3_enter 52 = .ok (.iload_n 2, 1) := by decide +kernel
theorem dX3_enter_53 : decode cX3_enter 53 = .ok (.ifCond .ne 13, 3) := by decide +kernel
theorem dX3_enter_56 : decode cX3_enter 56 = .ok (.aload_n 0, 1) := by decide +kernel
theorem dX3_enter_57 : decode cX3_enter 57 = .ok (.getfield 28, 3) := by decide +kernel
theorem dX3_enter_60 : decode cX3_enter 60 = .ok (.invokevirtual 68, 3) := by decide +kernel
theorem dX3_enter_63 : decode cX3_enter 63 = .ok (.goto 4, 3) := by decide +kernel
theorem dX3_enter_66 : decode cX3_enter 66 = .ok (.iload_n 2, 1) := by decide +kernel
theorem dX3_enter_67 : decode cX3_enter 67 = .ok (.istore 4, 2) := by decide +kernel
theorem dX3_enter_69 : decode cX3_enter 69 = .ok (.aload_n 0, 1) := by decide +kernel
theorem dX3_enter_70 : decode cX3_enter 70 = .ok (.getfield 28, 3) := by decide +kernel
theorem dX3_enter_73 : decode cX3_enter 73 = .ok (.iload 4, 2) := by decide +kernel
theorem dX3_enter_75 : decode cX3_enter 75 = .ok (.invokevirtual 71, 3) := by decide +kernel
theorem dX3_enter_78 : decode cX3_enter 78 = .ok (.istore 5, 2) := by decide +kernel
theorem dX3_enter_80 : decode cX3_enter 80 = .ok (.iload 4, 2) := by decide +kernel
theorem dX3_enter_82 : decode cX3_enter 82 = .ok (.ifCond .eq 9, 3) := by decide +kernel
theorem dX3_enter_85 : decode cX3_enter 85 = .ok (.iload 5, 2) := by decide +kernel
theorem dX3_enter_87 : decode cX3_enter 87 = .ok (.iconst (-1), 1) := by decide +kernel
theorem dX3_enter_88 : decode cX3_enter 88 = .ok (.if_icmp .ne 13, 3) := by decide +kernel
theorem dX3_enter_91 : decode cX3_enter 91 = .ok (.new 75, 3) := by decide +kernel
theorem dX3_enter_94 : decode cX3_enter 94 = .ok (.dup, 1) := by decide +kernel
theorem dX3_enter_95 : decode cX3_enter 95 = .ok (.ldc 77, 2) := by decide +kernel
theorem dX3_enter_97 : decode cX3_enter 97 = .ok (.invokespecial 79, 3) := by decide +kernel
theorem dX3_enter_100 : decode cX3_enter 100 = .ok (.athrow, 1) := by decide +kernel
theorem dX3_enter_101 : decode cX3_enter 101 = .ok (.aload_n 0, 1) := by decide +kernel
theorem dX3_enter_102 : decode cX3_enter 102 = .ok (.iload 5, 2) := by decide +kernel
theorem dX3_enter_104 : decode cX3_enter 104 = .ok (.iconst 1, 1) := by decide +kernel
theorem dX3_enter_105 : decode cX3_enter 105 = .ok (.iload 4, 2) := by decide +kernel
theorem dX3_enter_107 : decode cX3_enter 107 = .ok (.iload_n 1, 1) := by decide +kernel
theorem dX3_enter_108 : decode cX3_enter 108 = .ok (.iload_n 3, 1) := by decide +kernel
theorem dX3_enter_109 : decode cX3_enter 109 = .ok (.invokevirtual 80, 3) := by decide +kernel
theorem dX3_enter_112 : decode cX3_enter 112 = .ok (.aload_n 0, 1) := by decide +kernel
theorem dX3_enter_113 : decode cX3_enter 113 = .ok (.invokevirtual 84, 3) := by decide +kernel
theorem dX3_enter_116 : decode cX3_enter 116 = .ok (.aload_n 0, 1) := by decide +kernel
theorem dX3_enter_117 : decode cX3_enter 117 = .ok (.invokevirtual 87, 3) := by decide +kernel
theorem dX3_enter_120 : decode cX3_enter 120 = .ok (.ifCond .eq 7, 3) := by decide +kernel
theorem dX3_enter_123 : decode cX3_enter 123 = .ok (.iload_n 3, 1) := by decide +kernel
theorem dX3_enter_124 : decode cX3_enter 124 = .ok (.goto 4, 3) := by decide +kernel
theorem dX3_enter_127 : decode cX3_enter 127 = .ok (.iconst (-1), 1) := by decide +kernel
theorem dX3_enter_128 : decode cX3_enter 128 = .ok (.ireturn, 1) := by decide +kernel
set_option maxRecDepth 20000 in
theorem ggX3_put_X3_requirePower : GoodIn wsX3_put wsX3_requirePower := goodIn_ca (goodIn_r _ [6, 7, 8, 9, 10, 11, 12, 13, 14, 15, 66, 67, 68, 69, 70, 71, 72, 73, 74] (by decide +kernel) (by decide +kernel)) (goodIn_sub (fun _ h => List.mem_cons_of_mem _ (List.mem_append_left _ (List.mem_append_left _ (List.mem_append_right _ h)))) (by decide +kernel))
set_option maxRecDepth 20000 in
theorem gX3_put_X3_requirePower : GoodIn wsX3_put (wsV RX3 46 RX3 yX3_requirePower wsX3_requirePower) := goodIn_app (goodIn_of _ (by decide +kernel)) ggX3_put_X3_requirePower
set_option maxRecDepth 20000 in
theorem ggX3_put_X3_requireTentative : GoodIn wsX3_put wsX3_requireTentative := goodIn_ca (goodIn_r _ [19, 20, 21, 1, 22, 23, 24, 25, 26, 27, 28, 29, 30, 31, 32, 33, 34, 35, 66, 67, 68, 69, 70, 71, 75, 76, 77, 78, 79, 80] (by decide +kernel) (by decide +kernel)) (goodIn_sub (fun _ h => List.mem_cons_of_mem _ (List.mem_append_left _ (List.mem_append_right _ h))) (by decide +kernel))
set_option maxRecDepth 20000 in
theorem gX3_put_X3_requireTentative : GoodIn wsX3_put (wsV RX3 91 RX3 yX3_requireTentative wsX3_requireTentative) := goodIn_app (goodIn_of _ (by decide +kernel)) ggX3_put_X3_requireTentative
set_option maxRecDepth 20000 in
theorem ggX3_put_X3_requireBlock : GoodIn wsX3_put wsX3_requireBlock := goodIn_ca (goodIn_r _ [39, 40, 41, 1, 42, 43, 44, 25, 45, 46, 30, 31, 32, 33, 34, 35, 66, 67, 68, 69, 70, 71, 75, 76, 77, 78, 79, 80] (by decide +kernel) (by decide +kernel)) (goodIn_sub (fun _ h => List.mem_cons_of_mem _ (List.mem_append_right _ h)) (by decide +kernel))
set_option maxRecDepth 20000 in
theorem gX3_put_X3_requireBlock : GoodIn wsX3_put (wsV RX3 94 RX3 yX3_requireBlock wsX3_requireBlock) := goodIn_app (goodIn_of _ (by decide +kernel)) ggX3_put_X3_requireBlock
set_option maxRecDepth 20000 in
theorem ggX3_put_X0_beginAt : GoodIn wsX3_put wsX0_beginAt := goodIn_r _ [50, 27, 46, 30, 31, 32, 33, 34, 35, 75, 76, 77, 78, 79, 80] (by decide +kernel) (by decide +kernel)
set_option maxRecDepth 20000 in
theorem gX3_put_X0_beginAt : GoodIn wsX3_put (wsV RX3 98 RX0 yX0_beginAt wsX0_beginAt) := goodIn_app (goodIn_of _ (by decide +kernel)) ggX3_put_X0_beginAt
set_option maxRecDepth 20000 in
theorem ggX3_put_X3_writeBlock : GoodIn wsX3_put wsX3_writeBlock := goodIn_r _ [54, 9, 55, 56, 57, 58, 13, 59, 60, 15, 61, 62, 63, 64, 33, 65, 35, 66, 67, 68, 69, 70, 71, 72, 73, 74, 80] (by decide +kernel) (by decide +kernel)
set_option maxRecDepth 20000 in
theorem gX3_put_X3_writeBlock : GoodIn wsX3_put (wsV RX3 101 RX3 yX3_writeBlock wsX3_writeBlock) := goodIn_app (goodIn_of _ (by decide +kernel)) ggX3_put_X3_writeBlock
theorem dX3_put_0 : decode cX3_put 0 = .ok (.aload_n 0, 1) := by decide +kernel
theorem dX3_put_1 : decode cX3_put 1 = .ok (.invokevirtual 46, 3) := by decide +kernel
theorem dX3_put_4 : decode cX3_put 4 = .ok (.aload_n 0, 1) := by decide +kernel
theorem dX3_put_5 : decode cX3_put 5 = .ok (.iload_n 1, 1) := by decide +kernel
theorem dX3_put_6 : decode cX3_put 6 = .ok (.invokevirtual 91, 3) := by decide +kernel
theorem dX3_put_9 : decode cX3_put 9 = .ok (.istore 4, 2) := by decide +kernel
theorem dX3_put_11 : decode cX3_put 11 = .ok (.aload_n 0, 1) := by decide +kernel
theorem dX3_put_12 : decode cX3_put 12 = .ok (.iload 4, 2) := by decide +kernel
theorem dX3_put_14 : decode cX3_put 14 = .ok (.iload_n 2, 1) := by decide +kernel
theorem dX3_put_15 : decode cX3_put 15 = .ok (.invokevirtual 94, 3) := by decide +kernel
theorem dX3_put_18 : decode cX3_put 18 = .ok (.aload_n 0, 1) := by decide +kernel
theorem dX3_put_19 : decode cX3_put 19 = .ok (.aload_n 0, 1) := by decide +kernel
theorem dX3_put_20 : decode cX3_put 20 = .ok (.getfield 28, 3) := by decide +kernel
theorem dX3_put_23 : decode cX3_put 23 = .ok (.iload 4, 2) := by decide +kernel
theorem dX3_put_25 : decode cX3_put 25 = .ok (.invokevirtual 98, 3) := by decide +kernel
theorem dX3_put_28 : decode cX3_put 28 = .ok (.iload_n 2, 1) := by decide +kernel
theorem dX3_put_29 : decode cX3_put 29 = .ok (.iadd, 1) := by decide +kernel
theorem dX3_put_30 : decode cX3_put 30 = .ok (.iload_n 3, 1) := by decide +kernel
theorem dX3_put_31 : decode cX3_put 31 = .ok (.invokevirtual 101, 3) := by decide +kernel
theorem dX3_put_34 : decode cX3_put 34 = .ok (.ifCond .eq 7, 3) := by decide +kernel
theorem dX3_put_37 : decode cX3_put 37 = .ok (.iconst 0, 1) := by decide +kernel
theorem dX3_put_38 : decode cX3_put 38 = .ok (.goto 4, 3) := by decide +kernel
theorem dX3_put_41 : decode cX3_put 41 = .ok (.iconst (-1), 1) := by decide +kernel
theorem dX3_put_42 : decode cX3_put 42 = .ok (.ireturn, 1) := by decide +kernel
set_option maxRecDepth 20000 in
theorem ggX3_close_X3_requirePower : GoodIn wsX3_close wsX3_requirePower := goodIn_ca (goodIn_r _ [9, 10, 11, 12, 13, 14, 15, 16, 17, 18, 121, 122, 123, 124, 125, 126, 127, 128, 129] (by decide +kernel) (by decide +kernel)) (goodIn_sub (fun _ h => List.mem_cons_of_mem _ (List.mem_append_left _ (List.mem_append_left _ (List.mem_append_right _ h)))) (by decide +kernel))
set_option maxRecDepth 20000 in
theorem gX3_close_X3_requirePower : GoodIn wsX3_close (wsV RX3 46 RX3 yX3_requirePower wsX3_requirePower) := goodIn_app (goodIn_of _ (by decide +kernel)) ggX3_close_X3_requirePower
set_option maxRecDepth 20000 in
theorem ggX3_close_X3_requireTentative : GoodIn wsX3_close wsX3_requireTentative := goodIn_ca (goodIn_r _ [22, 23, 24, 3, 25, 26, 27, 28, 29, 30, 31, 32, 33, 34, 35, 36, 37, 38, 121, 122, 123, 124, 125, 126, 130, 131, 132, 133, 134, 135] (by decide +kernel) (by decide +kernel)) (goodIn_sub (fun _ h => List.mem_cons_of_mem _ (List.mem_append_left _ (List.mem_append_right _ h))) (by decide +kernel))
set_option maxRecDepth 20000 in
theorem gX3_close_X3_requireTentative : GoodIn wsX3_close (wsV RX3 91 RX3 yX3_requireTentative wsX3_requireTentative) := goodIn_app (goodIn_of _ (by decide +kernel)) ggX3_close_X3_requireTentative
set_option maxRecDepth 20000 in
theorem ggX3_close_X0_lengthAt : GoodIn wsX3_close wsX0_lengthAt := goodIn_r _ [42, 43, 33, 34, 35, 36, 37, 38, 130, 131, 132, 133, 134, 135] (by decide +kernel) (by decide +kernel)
set_option maxRecDepth 20000 in
theorem gX3_close_X0_lengthAt : GoodIn wsX3_close (wsV RX3 105 RX0 yX0_lengthAt wsX0_lengthAt) := goodIn_app (goodIn_of _ (by decide +kernel)) ggX3_close_X0_lengthAt
set_option maxRecDepth 20000 in
theorem ggX3_close_X3_draftClosed : GoodIn wsX3_close wsX3_draftClosed := goodIn_r _ [47, 3, 4, 48, 49, 50, 28, 51, 52, 33, 34, 35, 36, 37, 38, 53, 54, 55, 56, 30, 31, 57, 58, 59, 60, 61, 62, 63, 64, 65, 66, 67, 68, 43, 32, 69, 70, 71, 72, 39, 40, 41, 42, 73, 74, 75, 76, 77, 78, 79, 80, 81, 82, 83, 84, 85, 86, 87, 88, 89, 90, 91, 121, 122, 123, 124, 125, 126, 130, 131, 132, 133, 134, 135] (by decide +kernel) (by decide +kernel)
set_option maxRecDepth 20000 in
theorem gX3_close_X3_draftClosed : GoodIn wsX3_close (wsV RX3 110 RX3 yX3_draftClosed wsX3_draftClosed) := goodIn_app (goodIn_of _ (by decide +kernel)) ggX3_close_X3_draftClosed
set_option maxRecDepth 20000 in
theorem ggX3_close_X3_requireFewEntries : GoodIn wsX3_close wsX3_requireFewEntries := goodIn_ca (goodIn_r _ [95, 96, 97, 4, 61, 62, 63, 28, 64, 30, 121, 122, 123, 124, 125, 126, 130, 131, 132, 133, 134] (by decide +kernel) (by decide +kernel)) (goodIn_sub (fun _ h => List.mem_cons_of_mem _ (List.mem_append_right _ h)) (by decide +kernel))
set_option maxRecDepth 20000 in
theorem gX3_close_X3_requireFewEntries : GoodIn wsX3_close (wsV RX3 84 RX3 yX3_requireFewEntries wsX3_requireFewEntries) := goodIn_app (goodIn_of _ (by decide +kernel)) ggX3_close_X3_requireFewEntries
set_option maxRecDepth 20000 in
theorem ggX3_close_X0_emptyBlocks : GoodIn wsX3_close wsX0_emptyBlocks := goodIn_r _ [101, 30, 31, 43, 33, 34, 35, 36, 37, 38, 130, 131, 132, 133, 134, 135] (by decide +kernel) (by decide +kernel)
set_option maxRecDepth 20000 in
theorem gX3_close_X0_emptyBlocks : GoodIn wsX3_close (wsV RX3 113 RX0 yX0_emptyBlocks wsX0_emptyBlocks) := goodIn_app (goodIn_of _ (by decide +kernel)) ggX3_close_X0_emptyBlocks
set_option maxRecDepth 20000 in
theorem ggX3_close_X3_change : GoodIn wsX3_close wsX3_change := goodIn_r _ [105, 4, 12, 3, 61, 62, 63, 28, 64, 30, 106, 107, 108, 16, 109, 110, 18, 111, 112, 113, 114, 115, 31, 43, 52, 32, 116, 117, 118, 36, 119, 38, 120, 34, 35, 37, 121, 122, 123, 124, 125, 126, 130, 131, 132, 133, 134, 127, 128, 129, 135] (by decide +kernel) (by decide +kernel)
set_option maxRecDepth 20000 in
theorem gX3_close_X3_change : GoodIn wsX3_close (wsV RX3 87 RX3 yX3_change wsX3_change) := goodIn_app (goodIn_of _ (by decide +kernel)) ggX3_close_X3_change
theorem dX3_close_0 : decode cX3_close 0 = .ok (.aload_n 0, 1) := by decide +kernel
theorem dX3_close_1 : decode cX3_close 1 = .ok (.invokevirtual 46, 3) := by decide +kernel
theorem dX3_close_4 : decode cX3_close 4 = .ok (.aload_n 0, 1) := by decide +kernel
theorem dX3_close_5 : decode cX3_close 5 = .ok (.iload_n 1, 1) := by decide +kernel
theorem dX3_close_6 : decode cX3_close 6 = .ok (.invokevirtual 91, 3) := by decide +kernel
theorem dX3_close_9 : decode cX3_close 9 = .ok (.istore_n 3, 1) := by decide +kernel
theorem dX3_close_10 : decode cX3_close 10 = .ok (.iload_n 2, 1) := by decide +kernel
theorem dX3_close_11 : decode cX3_close 11 = .ok (.iconst 1, 1) := by decide +kernel
theorem dX3_close_12 : decode cX3_close 12 = .ok (.if_icmp .lt 15, 3) := by decide +kernel
theorem dX3_close_15 : decode cX3_close 15 = .ok (.iload_n 2, 1) := by decide +kernel
theorem dX3_close_16 : decode cX3_close 16 = .ok (.aload_n 0, 1) := by decide +kernel
theorem dX3_close_17 : decode cX3_close 17 = .ok (.getfield 28, 3) := by decide +kernel
theorem dX3_close_20 : decode cX3_close 20 = .ok (.iload_n 3, 1) := by decide +kernel
theorem dX3_close_21 : decode cX3_close 21 = .ok (.invokevirtual 105, 3) := by decide +kernel
theorem dX3_close_24 : decode cX3_close 24 = .ok (.if_icmp .le 13, 3) := by decide +kernel
theorem dX3_close_27 : decode cX3_close 27 = .ok (.new 52, 3) := by decide +kernel
theorem dX3_close_30 : decode cX3_close 30 = .ok (.dup, 1) := by decide +kernel
theorem dX3_close_31 : decode cX3_close 31 = .ok (.ldc 108, 2) := by decide +kernel
theorem dX3_close_33 : decode cX3_close 33 = .ok (.invokespecial 56, 3) := by decide +kernel
theorem dX3_close_36 : decode cX3_close 36 = .ok (.athrow, 1) := by decide +kernel
theorem dX3_close_37 : decode cX3_close 37 = .ok (.aload_n 0, 1) := by decide +kernel
theorem dX3_close_38 : decode cX3_close 38 = .ok (.iload_n 3, 1) := by decide +kernel
theorem dX3_close_39 : decode cX3_close 39 = .ok (.iload_n 2, 1) := by decide +kernel
theorem dX3_close_40 : decode cX3_close 40 = .ok (.invokevirtual 110, 3) := by decide +kernel
theorem dX3_close_43 : decode cX3_close 43 = .ok (.aload_n 0, 1) := by decide +kernel
theorem dX3_close_44 : decode cX3_close 44 = .ok (.invokevirtual 84, 3) := by decide +kernel
theorem dX3_close_47 : decode cX3_close 47 = .ok (.aload_n 0, 1) := by decide +kernel
theorem dX3_close_48 : decode cX3_close 48 = .ok (.getfield 32, 3) := by decide +kernel
theorem dX3_close_51 : decode cX3_close 51 = .ok (.invokevirtual 113, 3) := by decide +kernel
theorem dX3_close_54 : decode cX3_close 54 = .ok (.aload_n 0, 1) := by decide +kernel
theorem dX3_close_55 : decode cX3_close 55 = .ok (.getfield 28, 3) := by decide +kernel
theorem dX3_close_58 : decode cX3_close 58 = .ok (.invokevirtual 113, 3) := by decide +kernel
theorem dX3_close_61 : decode cX3_close 61 = .ok (.isub, 1) := by decide +kernel
theorem dX3_close_62 : decode cX3_close 62 = .ok (.istore 4, 2) := by decide +kernel
theorem dX3_close_64 : decode cX3_close 64 = .ok (.aload_n 0, 1) := by decide +kernel
theorem dX3_close_65 : decode cX3_close 65 = .ok (.invokevirtual 87, 3) := by decide +kernel
theorem dX3_close_68 : decode cX3_close 68 = .ok (.ifCond .eq 8, 3) := by decide +kernel
theorem dX3_close_71 : decode cX3_close 71 = .ok (.iload 4, 2) := by decide +kernel
theorem dX3_close_73 : decode cX3_close 73 = .ok (.goto 4, 3) := by decide +kernel
theorem dX3_close_76 : decode cX3_close 76 = .ok (.iconst (-1), 1) := by decide +kernel
theorem dX3_close_77 : decode cX3_close 77 = .ok (.ireturn, 1) := by decide +kernel
set_option maxRecDepth 20000 in
theorem ggX3_purge_X3_requirePower : GoodIn wsX3_purge wsX3_requirePower := goodIn_ca (goodIn_r _ [5, 6, 7, 8, 9, 10, 11, 12, 13, 14, 108, 109, 110, 111, 112, 113, 114, 115, 116] (by decide +kernel) (by decide +kernel)) (goodIn_sub (fun _ h => List.mem_cons_of_mem _ (List.mem_append_left _ (List.mem_append_right _ h))) (by decide +kernel))
set_option maxRecDepth 20000 in
theorem gX3_purge_X3_requirePower : GoodIn wsX3_purge (wsV RX3 46 RX3 yX3_requirePower wsX3_requirePower) := goodIn_app (goodIn_of _ (by decide +kernel)) ggX3_purge_X3_requirePower
set_option maxRecDepth 20000 in
theorem ggX3_purge_X3_requireTentative : GoodIn wsX3_purge wsX3_requireTentative := goodIn_ca (goodIn_r _ [18, 19, 20, 21, 22, 23, 24, 25, 26, 27, 28, 29, 30, 31, 32, 33, 34, 35, 108, 109, 110, 111, 112, 113, 117, 118, 119, 120, 121, 122] (by decide +kernel) (by decide +kernel)) (goodIn_sub (fun _ h => List.mem_cons_of_mem _ (List.mem_append_right _ h)) (by decide +kernel))
set_option maxRecDepth 20000 in
theorem gX3_purge_X3_requireTentative : GoodIn wsX3_purge (wsV RX3 91 RX3 yX3_requireTentative wsX3_requireTentative) := goodIn_app (goodIn_of _ (by decide +kernel)) ggX3_purge_X3_requireTentative
set_option maxRecDepth 20000 in
theorem ggX3_purge_X3_makeEmpty : GoodIn wsX3_purge wsX3_makeEmpty := goodIn_r _ [39, 21, 40, 41, 42, 25, 43, 44, 30, 31, 32, 33, 34, 35, 45, 46, 47, 4, 48, 49, 50, 51, 52, 53, 27, 54, 55, 56, 57, 58, 59, 60, 61, 28, 62, 63, 64, 65, 66, 67, 68, 69, 70, 71, 29, 72, 73, 74, 75, 76, 77, 78, 79, 80, 81, 82, 83, 84, 85, 86, 87, 88, 89, 90, 91, 92, 8, 93, 94, 95, 12, 96, 97, 14, 98, 99, 100, 101, 102, 103, 104, 105, 106, 107, 108, 109, 110, 111, 112, 113, 117, 118, 119, 120, 121, 122, 114, 115, 116] (by decide +kernel) (by decide +kernel)
set_option maxRecDepth 20000 in
theorem gX3_purge_X3_makeEmpty : GoodIn wsX3_purge (wsV RX3 116 RX3 yX3_makeEmpty wsX3_makeEmpty) := goodIn_app (goodIn_of _ (by decide +kernel)) ggX3_purge_X3_makeEmpty
theorem dX3_purge_0 : decode cX3_purge 0 = .ok (.aload_n 0, 1) := by decide +kernel
theorem dX3_purge_1 : decode cX3_purge 1 = .ok (.invokevirtual 46, 3) := by decide +kernel
theorem dX3_purge_4 : decode cX3_purge 4 = .ok (.aload_n 0, 1) := by decide +kernel
theorem dX3_purge_5 : decode cX3_purge 5 = .ok (.aload_n 0, 1) := by decide +kernel
theorem dX3_purge_6 : decode cX3_purge 6 = .ok (.iload_n 1, 1) := by decide +kernel
theorem dX3_purge_7 : decode cX3_purge 7 = .ok (.invokevirtual 91, 3) := by decide +kernel
theorem dX3_purge_10 : decode cX3_purge 10 = .ok (.invokevirtual 116, 3) := by decide +kernel
theorem dX3_purge_13 : decode cX3_purge 13 = .ok (.ireturn, 1) := by decide +kernel
set_option maxRecDepth 20000 in
theorem ggX3_delete_X3_requirePower : GoodIn wsX3_delete wsX3_requirePower := goodIn_ca (goodIn_r _ [5, 6, 7, 8, 9, 10, 11, 12, 13, 14, 108, 109, 110, 111, 112, 113, 114, 115, 116] (by decide +kernel) (by decide +kernel)) (goodIn_sub (fun _ h => List.mem_cons_of_mem _ (List.mem_append_left _ (List.mem_append_right _ h))) (by decide +kernel))
set_option maxRecDepth 20000 in
theorem gX3_delete_X3_requirePower : GoodIn wsX3_delete (wsV RX3 46 RX3 yX3_requirePower wsX3_requirePower) := goodIn_app (goodIn_of _ (by decide +kernel)) ggX3_delete_X3_requirePower
set_option maxRecDepth 20000 in
theorem ggX3_delete_X3_requirePermanent : GoodIn wsX3_delete wsX3_requirePermanent := goodIn_ca (goodIn_r _ [18, 19, 20, 21, 22, 23, 24, 25, 26, 27, 28, 29, 30, 31, 32, 33, 34, 35, 108, 109, 110, 111, 112, 113, 117, 118, 119, 120, 121, 122] (by decide +kernel) (by decide +kernel)) (goodIn_sub (fun _ h => List.mem_cons_of_mem _ (List.mem_append_right _ h)) (by decide +kernel))
set_option maxRecDepth 20000 in
theorem gX3_delete_X3_requirePermanent : GoodIn wsX3_delete (wsV RX3 119 RX3 yX3_requirePermanent wsX3_requirePermanent) := goodIn_app (goodIn_of _ (by decide +kernel)) ggX3_delete_X3_requirePermanent
set_option maxRecDepth 20000 in
theorem ggX3_delete_X3_makeEmpty : GoodIn wsX3_delete wsX3_makeEmpty := goodIn_r _ [39, 21, 40, 41, 42, 25, 43, 44, 30, 31, 32, 33, 34, 35, 45, 46, 47, 4, 48, 49, 50, 51, 52, 53, 27, 54, 55, 56, 57, 58, 59, 60, 61, 28, 62, 63, 64, 65, 66, 29, 67, 68, 69, 70, 71, 72, 73, 74, 75, 76, 77, 78, 79, 80, 81, 82, 83, 84, 85, 86, 87, 88, 89, 90, 91, 92, 8, 93, 94, 95, 12, 96, 97, 14, 98, 99, 100, 101, 102, 103, 104, 105, 106, 107, 108, 109, 110, 111, 112, 113, 117, 118, 119, 120, 121, 122, 114, 115, 116] (by decide +kernel) (by decide +kernel)
set_option maxRecDepth 20000 in
theorem gX3_delete_X3_makeEmpty : GoodIn wsX3_delete (wsV RX3 116 RX3 yX3_makeEmpty wsX3_makeEmpty) := goodIn_app (goodIn_of _ (by decide +kernel)) ggX3_delete_X3_makeEmpty
theorem dX3_delete_0 : decode cX3_delete 0 = .ok (.aload_n 0, 1) := by decide +kernel
theorem dX3_delete_1 : decode cX3_delete 1 = .ok (.invokevirtual 46, 3) := by decide +kernel
theorem dX3_delete_4 : decode cX3_delete 4 = .ok (.aload_n 0, 1) := by decide +kernel
theorem dX3_delete_5 : decode cX3_delete 5 = .ok (.aload_n 0, 1) := by decide +kernel
theorem dX3_delete_6 : decode cX3_delete 6 = .ok (.iload_n 1, 1) := by decide +kernel
theorem dX3_delete_7 : decode cX3_delete 7 = .ok (.invokevirtual 119, 3) := by decide +kernel
theorem dX3_delete_10 : decode cX3_delete 10 = .ok (.invokevirtual 116, 3) := by decide +kernel
theorem dX3_delete_13 : decode cX3_delete 13 = .ok (.ireturn, 1) := by decide +kernel
set_option maxRecDepth 20000 in
theorem ggX3_rename_X3_requirePower : GoodIn wsX3_rename wsX3_requirePower := goodIn_ca (goodIn_r _ [8, 9, 10, 11, 12, 13, 14, 15, 16, 17, 112, 113, 114, 115, 116, 117, 118, 119, 120] (by decide +kernel) (by decide +kernel)) (goodIn_sub (fun _ h => List.mem_cons_of_mem _ (List.mem_append_left _ (List.mem_append_left _ (List.mem_append_right _ h)))) (by decide +kernel))
set_option maxRecDepth 20000 in
theorem gX3_rename_X3_requirePower : GoodIn wsX3_rename (wsV RX3 46 RX3 yX3_requirePower wsX3_requirePower) := goodIn_app (goodIn_of _ (by decide +kernel)) ggX3_rename_X3_requirePower
set_option maxRecDepth 20000 in
theorem ggX3_rename_X3_requireName : GoodIn wsX3_rename wsX3_requireName := goodIn_ca (goodIn_r _ [21, 22, 23] (by decide +kernel) (by decide +kernel)) (goodIn_sub (fun _ h => List.mem_cons_of_mem _ (List.mem_append_left _ (List.mem_append_right _ h))) (by decide +kernel))
set_option maxRecDepth 20000 in
theorem gX3_rename_X3_requireName : GoodIn wsX3_rename (wsV RX3 49 RX3 yX3_requireName wsX3_requireName) := goodIn_app (goodIn_of _ (by decide +kernel)) ggX3_rename_X3_requireName
set_option maxRecDepth 20000 in
theorem ggX3_rename_X3_requirePermanent : GoodIn wsX3_rename wsX3_requirePermanent := goodIn_ca (goodIn_r _ [27, 28, 29, 3, 30, 31, 32, 33, 34, 35, 36, 37, 38, 39, 40, 41, 42, 43, 112, 113, 114, 115, 116, 117, 121, 122, 123, 124, 125, 126] (by decide +kernel) (by decide +kernel)) (goodIn_sub (fun _ h => List.mem_cons_of_mem _ (List.mem_append_right _ h)) (by decide +kernel))
set_option maxRecDepth 20000 in
theorem gX3_rename_X3_requirePermanent : GoodIn wsX3_rename (wsV RX3 119 RX3 yX3_requirePermanent wsX3_requirePermanent) := goodIn_app (goodIn_of _ (by decide +kernel)) ggX3_rename_X3_requirePermanent
set_option maxRecDepth 20000 in
theorem ggX3_rename_X0_findPermanent : GoodIn wsX3_rename wsX0_findPermanent := goodIn_r _ [34, 35, 36, 37, 38, 39, 40, 41, 42, 43, 121, 122, 123, 124, 125, 126] (by decide +kernel) (by decide +kernel)
set_option maxRecDepth 20000 in
theorem gX3_rename_X0_findPermanent : GoodIn wsX3_rename (wsV RX3 122 RX0 yX0_findPermanent wsX0_findPermanent) := goodIn_app (goodIn_of _ (by decide +kernel)) ggX3_rename_X0_findPermanent
set_option maxRecDepth 20000 in
theorem ggX3_rename_X0_lengthAt : GoodIn wsX3_rename wsX0_lengthAt := goodIn_r _ [47, 48, 38, 39, 40, 41, 42, 43, 121, 122, 123, 124, 125, 126] (by decide +kernel) (by decide +kernel)
set_option maxRecDepth 20000 in
theorem gX3_rename_X0_lengthAt : GoodIn wsX3_rename (wsV RX3 105 RX0 yX0_lengthAt wsX0_lengthAt) := goodIn_app (goodIn_of _ (by decide +kernel)) ggX3_rename_X0_lengthAt
set_option maxRecDepth 20000 in
theorem ggX3_rename_X3_draftInPlaceOf : GoodIn wsX3_rename wsX3_draftInPlaceOf := goodIn_r _ [52, 53, 3, 54, 55, 56, 33, 57, 35, 58, 59, 60, 61, 62, 63, 64, 65, 36, 38, 39, 40, 41, 42, 43, 66, 45, 46, 47, 48, 67, 68, 69, 70, 37, 71, 72, 73, 74, 75, 76, 77, 78, 79, 80, 81, 82, 83, 84, 44, 85, 86, 87, 88, 89, 90, 91, 92, 112, 113, 114, 115, 116, 117, 121, 122, 123, 124, 125, 126] (by decide +kernel) (by decide +kernel)
set_option maxRecDepth 20000 in
theorem gX3_rename_X3_draftInPlaceOf : GoodIn wsX3_rename (wsV RX3 80 RX3 yX3_draftInPlaceOf wsX3_draftInPlaceOf) := goodIn_app (goodIn_of _ (by decide +kernel)) ggX3_rename_X3_draftInPlaceOf
set_option maxRecDepth 20000 in
theorem ggX3_rename_X3_change : GoodIn wsX3_rename wsX3_change := goodIn_r _ [96, 53, 11, 3, 89, 90, 91, 33, 92, 35, 97, 98, 99, 15, 100, 101, 17, 102, 103, 104, 105, 106, 36, 48, 37, 75, 107, 108, 109, 41, 110, 43, 111, 39, 40, 42, 112, 113, 114, 115, 116, 117, 121, 122, 123, 124, 125, 118, 119, 120, 126] (by decide +kernel) (by decide +kernel)
set_option maxRecDepth 20000 in
theorem gX3_rename_X3_change : GoodIn wsX3_rename (wsV RX3 87 RX3 yX3_change wsX3_change) := goodIn_app (goodIn_of _ (by decide +kernel)) ggX3_rename_X3_change
theorem dX3_rename_0 : decode cX3_rename 0 = .ok (.aload_n 0, 1) := by decide +kernel
theorem dX3_rename_1 : decode cX3_rename 1 = .ok (.invokevirtual 46, 3) := by decide +kernel
theorem dX3_rename_4 : decode cX3_rename 4 = .ok (.aload_n 0, 1) := by decide +kernel
theorem dX3_rename_5 : decode cX3_rename 5 = .ok (.iload_n 2, 1) := by decide +kernel
theorem dX3_rename_6 : decode cX3_rename 6 = .ok (.invokevirtual 49, 3) := by decide +kernel
theorem dX3_rename_9 : decode cX3_rename 9 = .ok (.aload_n 0, 1) := by decide +kernel
theorem dX3_rename_10 : decode cX3_rename 10 = .ok (.iload_n 1, 1) := by decide +kernel
theorem dX3_rename_11 : decode cX3_rename 11 = .ok (.invokevirtual 119, 3) := by decide +kernel
theorem dX3_rename_14 : decode cX3_rename 14 = .ok (.istore_n 3, 1) := by decide +kernel
theorem dX3_rename_15 : decode cX3_rename 15 = .ok (.aload_n 0, 1) := by decide +kernel
theorem dX3_rename_16 : decode cX3_rename 16 = .ok (.getfield 28, 3) := by decide +kernel
theorem dX3_rename_19 : decode cX3_rename 19 = .ok (.iload_n 2, 1) := by decide +kernel
theorem dX3_rename_20 : decode cX3_rename 20 = .ok (.invokevirtual 122, 3) := by decide +kernel
theorem dX3_rename_23 : decode cX3_rename 23 = .ok (.iconst (-1), 1) := by decide +kernel
theorem dX3_rename_24 : decode cX3_rename 24 = .ok (.if_icmp .eq 13, 3) := by decide +kernel
theorem dX3_rename_27 : decode cX3_rename 27 = .ok (.new 75, 3) := by decide +kernel
theorem dX3_rename_30 : decode cX3_rename 30 = .ok (.dup, 1) := by decide +kernel
theorem dX3_rename_31 : decode cX3_rename 31 = .ok (.ldc 125, 2) := by decide +kernel
theorem dX3_rename_33 : decode cX3_rename 33 = .ok (.invokespecial 79, 3) := by decide +kernel
theorem dX3_rename_36 : decode cX3_rename 36 = .ok (.athrow, 1) := by decide +kernel
theorem dX3_rename_37 : decode cX3_rename 37 = .ok (.aload_n 0, 1) := by decide +kernel
theorem dX3_rename_38 : decode cX3_rename 38 = .ok (.iload_n 3, 1) := by decide +kernel
theorem dX3_rename_39 : decode cX3_rename 39 = .ok (.iconst 2, 1) := by decide +kernel
theorem dX3_rename_40 : decode cX3_rename 40 = .ok (.aload_n 0, 1) := by decide +kernel
theorem dX3_rename_41 : decode cX3_rename 41 = .ok (.getfield 28, 3) := by decide +kernel
theorem dX3_rename_44 : decode cX3_rename 44 = .ok (.iload_n 3, 1) := by decide +kernel
theorem dX3_rename_45 : decode cX3_rename 45 = .ok (.invokevirtual 105, 3) := by decide +kernel
theorem dX3_rename_48 : decode cX3_rename 48 = .ok (.iload_n 2, 1) := by decide +kernel
theorem dX3_rename_49 : decode cX3_rename 49 = .ok (.iconst (-1), 1) := by decide +kernel
theorem dX3_rename_50 : decode cX3_rename 50 = .ok (.invokevirtual 80, 3) := by decide +kernel
theorem dX3_rename_53 : decode cX3_rename 53 = .ok (.aload_n 0, 1) := by decide +kernel
theorem dX3_rename_54 : decode cX3_rename 54 = .ok (.invokevirtual 87, 3) := by decide +kernel
theorem dX3_rename_57 : decode cX3_rename 57 = .ok (.ifCond .eq 7, 3) := by decide +kernel
theorem dX3_rename_60 : decode cX3_rename 60 = .ok (.iconst 0, 1) := by decide +kernel
theorem dX3_rename_61 : decode cX3_rename 61 = .ok (.goto 4, 3) := by decide +kernel
theorem dX3_rename_64 : decode cX3_rename 64 = .ok (.iconst (-1), 1) := by decide +kernel
theorem dX3_rename_65 : decode cX3_rename 65 = .ok (.ireturn, 1) := by decide +kernel
set_option maxRecDepth 20000 in
theorem ggX3_read_X3_requirePower : GoodIn wsX3_read wsX3_requirePower := goodIn_ca (goodIn_r _ [7, 8, 9, 10, 11, 12, 13, 14, 15, 16, 53, 54, 55, 56, 57, 58, 59, 60, 61] (by decide +kernel) (by decide +kernel)) (goodIn_sub (fun _ h => List.mem_cons_of_mem _ (List.mem_append_left _ (List.mem_append_left _ (List.mem_append_right _ h)))) (by decide +kernel))
set_option maxRecDepth 20000 in
theorem gX3_read_X3_requirePower : GoodIn wsX3_read (wsV RX3 46 RX3 yX3_requirePower wsX3_requirePower) := goodIn_app (goodIn_of _ (by decide +kernel)) ggX3_read_X3_requirePower
set_option maxRecDepth 20000 in
theorem ggX3_read_X3_requirePermanent : GoodIn wsX3_read wsX3_requirePermanent := goodIn_ca (goodIn_r _ [20, 21, 22, 2, 23, 24, 25, 26, 27, 28, 29, 30, 31, 32, 33, 34, 35, 36, 53, 54, 55, 56, 57, 58, 62, 63, 64, 65, 66, 67] (by decide +kernel) (by decide +kernel)) (goodIn_sub (fun _ h => List.mem_cons_of_mem _ (List.mem_append_left _ (List.mem_append_right _ h))) (by decide +kernel))
set_option maxRecDepth 20000 in
theorem gX3_read_X3_requirePermanent : GoodIn wsX3_read (wsV RX3 119 RX3 yX3_requirePermanent wsX3_requirePermanent) := goodIn_app (goodIn_of _ (by decide +kernel)) ggX3_read_X3_requirePermanent
set_option maxRecDepth 20000 in
theorem ggX3_read_X3_requireBlock : GoodIn wsX3_read wsX3_requireBlock := goodIn_ca (goodIn_r _ [40, 41, 42, 2, 43, 44, 45, 26, 46, 47, 31, 32, 33, 34, 35, 36, 53, 54, 55, 56, 57, 58, 62, 63, 64, 65, 66, 67] (by decide +kernel) (by decide +kernel)) (goodIn_sub (fun _ h => List.mem_cons_of_mem _ (List.mem_append_right _ h)) (by decide +kernel))
set_option maxRecDepth 20000 in
theorem gX3_read_X3_requireBlock : GoodIn wsX3_read (wsV RX3 94 RX3 yX3_requireBlock wsX3_requireBlock) := goodIn_app (goodIn_of _ (by decide +kernel)) ggX3_read_X3_requireBlock
set_option maxRecDepth 20000 in
theorem ggX3_read_X0_beginAt : GoodIn wsX3_read wsX0_beginAt := goodIn_r _ [51, 28, 47, 31, 32, 33, 34, 35, 36, 62, 63, 64, 65, 66, 67] (by decide +kernel) (by decide +kernel)
set_option maxRecDepth 20000 in
theorem gX3_read_X0_beginAt : GoodIn wsX3_read (wsV RX3 98 RX0 yX0_beginAt wsX0_beginAt) := goodIn_app (goodIn_of _ (by decide +kernel)) ggX3_read_X0_beginAt
set_option maxRecDepth 20000 in
theorem ggX3_read_X2_at : GoodIn wsX3_read wsX2_at := goodIn_r _ [35, 36, 67] (by decide +kernel) (by decide +kernel)
set_option maxRecDepth 20000 in
theorem gX3_read_X2_at : GoodIn wsX3_read (wsV RX3 127 RX2 yX2_at wsX2_at) := goodIn_app (goodIn_of _ (by decide +kernel)) ggX3_read_X2_at
theorem dX3_read_0 : decode cX3_read 0 = .ok (.aload_n 0, 1) := by decide +kernel
theorem dX3_read_1 : decode cX3_read 1 = .ok (.invokevirtual 46, 3) := by decide +kernel
theorem dX3_read_4 : decode cX3_read 4 = .ok (.aload_n 0, 1) := by decide +kernel
theorem dX3_read_5 : decode cX3_read 5 = .ok (.iload_n 1, 1) := by decide +kernel
theorem dX3_read_6 : decode cX3_read 6 = .ok (.invokevirtual 119, 3) := by decide +kernel
theorem dX3_read_9 : decode cX3_read 9 = .ok (.istore_n 3, 1) := by decide +kernel
theorem dX3_read_10 : decode cX3_read 10 = .ok (.aload_n 0, 1) := by decide +kernel
theorem dX3_read_11 : decode cX3_read 11 = .ok (.iload_n 3, 1) := by decide +kernel
theorem dX3_read_12 : decode cX3_read 12 = .ok (.iload_n 2, 1) := by decide +kernel
theorem dX3_read_13 : decode cX3_read 13 = .ok (.invokevirtual 94, 3) := by decide +kernel
theorem dX3_read_16 : decode cX3_read 16 = .ok (.aload_n 0, 1) := by decide +kernel
theorem dX3_read_17 : decode cX3_read 17 = .ok (.getfield 21, 3) := by decide +kernel
theorem dX3_read_20 : decode cX3_read 20 = .ok (.aload_n 0, 1) := by decide +kernel
theorem dX3_read_21 : decode cX3_read 21 = .ok (.getfield 28, 3) := by decide +kernel
theorem dX3_read_24 : decode cX3_read 24 = .ok (.iload_n 3, 1) := by decide +kernel
theorem dX3_read_25 : decode cX3_read 25 = .ok (.invokevirtual 98, 3) := by decide +kernel
theorem dX3_read_28 : decode cX3_read 28 = .ok (.iload_n 2, 1) := by decide +kernel
theorem dX3_read_29 : decode cX3_read 29 = .ok (.iadd, 1) := by decide +kernel
theorem dX3_read_30 : decode cX3_read 30 = .ok (.invokevirtual 127, 3) := by decide +kernel
theorem dX3_read_33 : decode cX3_read 33 = .ok (.ireturn, 1) := by decide +kernel
set_option maxRecDepth 20000 in
theorem ggX3_squeeze_X3_requirePower : GoodIn wsX3_squeeze wsX3_requirePower := goodIn_ca (goodIn_r _ [8, 1, 2, 9, 10, 11, 12, 13, 14, 15, 137, 138, 139, 140, 141, 142, 143, 144, 145] (by decide +kernel) (by decide +kernel)) (goodIn_sub (fun _ h => List.mem_cons_of_mem _ (List.mem_append_right _ h)) (by decide +kernel))
set_option maxRecDepth 20000 in
theorem gX3_squeeze_X3_requirePower : GoodIn wsX3_squeeze (wsV RX3 46 RX3 yX3_requirePower wsX3_requirePower) := goodIn_app (goodIn_of _ (by decide +kernel)) ggX3_squeeze_X3_requirePower
set_option maxRecDepth 20000 in
theorem ggX3_squeeze_X0_countOf : GoodIn wsX3_squeeze wsX0_countOf := goodIn_r _ [20, 21, 22, 23, 24, 25, 26, 27, 28, 146, 147, 148, 149, 150, 151] (by decide +kernel) (by decide +kernel)
set_option maxRecDepth 20000 in
theorem gX3_squeeze_X0_countOf : GoodIn wsX3_squeeze (wsV RX3 130 RX0 yX0_countOf wsX0_countOf) := goodIn_app (goodIn_of _ (by decide +kernel)) ggX3_squeeze_X0_countOf
set_option maxRecDepth 20000 in
theorem ggX3_squeeze_X3_moveAll : GoodIn wsX3_squeeze wsX3_moveAll := goodIn_r _ [32, 3, 33, 34, 35, 36, 19, 37, 21, 22, 23, 24, 25, 26, 27, 28, 38, 39, 40, 41, 42, 43, 44, 45, 7, 46, 47, 48, 49, 50, 51, 52, 53, 54, 55, 56, 57, 58, 59, 60, 61, 62, 63, 64, 65, 66, 67, 9, 68, 69, 70, 13, 71, 72, 15, 73, 74, 75, 76, 77, 78, 79, 80, 81, 82, 83, 84, 85, 86, 87, 88, 89, 90, 91, 92, 93, 94, 95, 96, 97, 98, 99, 100, 101, 102, 103, 104, 105, 106, 107, 108, 109, 110, 111, 112, 113, 114, 115, 116, 117, 118, 119, 120, 121, 122, 123, 124, 125, 126, 127, 128, 129, 130, 131, 132, 133, 134, 135, 136, 137, 138, 139, 140, 141, 142, 146, 147, 148, 149, 150, 151, 143, 144, 145] (by decide +kernel) (by decide +kernel)
set_option maxRecDepth 20000 in
theorem gX3_squeeze_X3_moveAll : GoodIn wsX3_squeeze (wsV RX3 135 RX3 yX3_moveAll wsX3_moveAll) := goodIn_app (goodIn_of _ (by decide +kernel)) ggX3_squeeze_X3_moveAll
theorem dX3_squeeze_0 : decode cX3_squeeze 0 = .ok (.aload_n 0, 1) := by decide +kernel
theorem dX3_squeeze_1 : decode cX3_squeeze 1 = .ok (.invokevirtual 46, 3) := by decide +kernel
theorem dX3_squeeze_4 : decode cX3_squeeze 4 = .ok (.aload_n 0, 1) := by decide +kernel
theorem dX3_squeeze_5 : decode cX3_squeeze 5 = .ok (.getfield 28, 3) := by decide +kernel
theorem dX3_squeeze_8 : decode cX3_squeeze 8 = .ok (.iconst 1, 1) := by decide +kernel
theorem dX3_squeeze_9 : decode cX3_squeeze 9 = .ok (.invokevirtual 130, 3) := by decide +kernel
theorem dX3_squeeze_12 : decode cX3_squeeze 12 = .ok (.ifCond .le 13, 3) := by decide +kernel
theorem dX3_squeeze_15 : decode cX3_squeeze 15 = .ok (.new 63, 3) := by decide +kernel
theorem dX3_squeeze_18 : decode cX3_squeeze 18 = .ok (.dup, 1) := by decide +kernel
theorem dX3_squeeze_19 : decode cX3_squeeze 19 = .ok (.ldc 133, 2) := by decide +kernel
theorem dX3_squeeze_21 : decode cX3_squeeze 21 = .ok (.invokespecial 67, 3) := by decide +kernel
theorem dX3_squeeze_24 : decode cX3_squeeze 24 = .ok (.athrow, 1) := by decide +kernel
theorem dX3_squeeze_25 : decode cX3_squeeze 25 = .ok (.aload_n 0, 1) := by decide +kernel
theorem dX3_squeeze_26 : decode cX3_squeeze 26 = .ok (.invokevirtual 135, 3) := by decide +kernel
theorem dX3_squeeze_29 : decode cX3_squeeze 29 = .ok (.ireturn, 1) := by decide +kernel
set_option maxRecDepth 20000 in
theorem ggX3_mount_X1_isUp : GoodIn wsX3_mount wsX1_isUp := goodIn_r _ [10, 11, 148, 149, 150] (by decide +kernel) (by decide +kernel)
set_option maxRecDepth 20000 in
theorem gX3_mount_X1_isUp : GoodIn wsX3_mount (wsV RX3 138 RX1 yX1_isUp wsX1_isUp) := goodIn_app (goodIn_of _ (by decide +kernel)) ggX3_mount_X1_isUp
set_option maxRecDepth 20000 in
theorem ggX3_mount_X1_comeAgain : GoodIn wsX3_mount wsX1_comeAgain := goodIn_r _ [15, 11, 16, 148, 149, 150] (by decide +kernel) (by decide +kernel)
set_option maxRecDepth 20000 in
theorem gX3_mount_X1_comeAgain : GoodIn wsX3_mount (wsV RX3 143 RX1 yX1_comeAgain wsX1_comeAgain) := goodIn_app (goodIn_of _ (by decide +kernel)) ggX3_mount_X1_comeAgain
set_option maxRecDepth 20000 in
theorem ggX3_mount_X3_moveAll : GoodIn wsX3_mount wsX3_moveAll := goodIn_r _ [21, 5, 4, 22, 23, 24, 25, 26, 27, 28, 29, 30, 31, 32, 33, 34, 35, 36, 37, 38, 39, 40, 41, 42, 20, 43, 44, 45, 46, 47, 48, 49, 50, 51, 52, 53, 54, 55, 56, 57, 58, 59, 60, 61, 62, 63, 64, 3, 65, 66, 67, 9, 68, 16, 11, 69, 70, 71, 72, 73, 74, 75, 76, 77, 78, 79, 80, 81, 82, 83, 84, 85, 86, 87, 88, 89, 90, 91, 92, 93, 94, 95, 96, 97, 98, 99, 100, 101, 102, 103, 104, 105, 106, 107, 108, 109, 110, 111, 112, 113, 114, 115, 116, 117, 118, 119, 120, 121, 122, 123, 124, 125, 126, 127, 128, 129, 130, 131, 132, 142, 143, 144, 145, 146, 147, 151, 152, 153, 154, 155, 156, 148, 149, 150] (by decide +kernel) (by decide +kernel)
set_option maxRecDepth 20000 in
theorem gX3_mount_X3_moveAll : GoodIn wsX3_mount (wsV RX3 135 RX3 yX3_moveAll wsX3_moveAll) := goodIn_app (goodIn_of _ (by decide +kernel)) ggX3_mount_X3_moveAll
set_option maxRecDepth 20000 in
theorem ggX3_mount_X0_countOf : GoodIn wsX3_mount wsX0_countOf := goodIn_r _ [136, 27, 28, 29, 30, 31, 32, 33, 34, 151, 152, 153, 154, 155, 156] (by decide +kernel) (by decide +kernel)
set_option maxRecDepth 20000 in
theorem gX3_mount_X0_countOf : GoodIn wsX3_mount (wsV RX3 130 RX0 yX0_countOf wsX0_countOf) := goodIn_app (goodIn_of _ (by decide +kernel)) ggX3_mount_X0_countOf
set_option maxRecDepth 20000 in
theorem ggX3_mount_X3_draftWithoutTentative : GoodIn wsX3_mount wsX3_draftWithoutTentative := goodIn_r _ [140, 83, 5, 84, 85, 86, 25, 87, 27, 116, 117, 118, 119, 141, 93, 94, 95, 28, 29, 30, 31, 32, 33, 34, 35, 36, 37, 38, 39, 112, 113, 114, 115, 107, 108, 109, 110, 101, 106, 111, 76, 77, 78, 88, 89, 90, 91, 92, 96, 97, 98, 99, 100, 102, 103, 104, 105, 142, 143, 144, 145, 146, 147, 151, 152, 153, 154, 155, 156] (by decide +kernel) (by decide +kernel)
set_option maxRecDepth 20000 in
theorem gX3_mount_X3_draftWithoutTentative : GoodIn wsX3_mount (wsV RX3 146 RX3 yX3_draftWithoutTentative wsX3_draftWithoutTentative) := goodIn_app (goodIn_of _ (by decide +kernel)) ggX3_mount_X3_draftWithoutTentative
set_option maxRecDepth 20000 in
theorem ggX3_mount_X3_change : GoodIn wsX3_mount wsX3_change := goodIn_r _ [123, 83, 3, 5, 116, 117, 118, 25, 119, 27, 65, 66, 67, 9, 68, 16, 11, 69, 124, 125, 126, 127, 28, 39, 101, 106, 128, 129, 130, 32, 131, 34, 132, 30, 31, 33, 142, 143, 144, 145, 146, 147, 151, 152, 153, 154, 155, 148, 149, 150, 156] (by decide +kernel) (by decide +kernel)
set_option maxRecDepth 20000 in
theorem gX3_mount_X3_change : GoodIn wsX3_mount (wsV RX3 87 RX3 yX3_change wsX3_change) := goodIn_app (goodIn_of _ (by decide +kernel)) ggX3_mount_X3_change
theorem dX3_mount_0 : decode cX3_mount 0 = .ok (.aload_n 0, 1) := by decide +kernel
theorem dX3_mount_1 : decode cX3_mount 1 = .ok (.getfield 10, 3) := by decide +kernel
theorem dX3_mount_4 : decode cX3_mount 4 = .ok (.invokevirtual 138, 3) := by decide +kernel
theorem dX3_mount_7 : decode cX3_mount 7 = .ok (.ifCond .eq 13, 3) := by decide +kernel
theorem dX3_mount_10 : decode cX3_mount 10 = .ok (.new 63, 3) := by decide +kernel
theorem dX3_mount_13 : decode cX3_mount 13 = .ok (.dup, 1) := by decide +kernel
theorem dX3_mount_14 : decode cX3_mount 14 = .ok (.ldc 141, 2) := by decide +kernel
theorem dX3_mount_16 : decode cX3_mount 16 = .ok (.invokespecial 67, 3) := by decide +kernel
theorem dX3_mount_19 : decode cX3_mount 19 = .ok (.athrow, 1) := by decide +kernel
theorem dX3_mount_20 : decode cX3_mount 20 = .ok (.aload_n 0, 1) := by decide +kernel
theorem dX3_mount_21 : decode cX3_mount 21 = .ok (.getfield 10, 3) := by decide +kernel
theorem dX3_mount_24 : decode cX3_mount 24 = .ok (.invokevirtual 143, 3) := by decide +kernel
theorem dX3_mount_27 : decode cX3_mount 27 = .ok (.aload_n 0, 1) := by decide +kernel
theorem dX3_mount_28 : decode cX3_mount 28 = .ok (.getfield 35, 3) := by decide +kernel
theorem dX3_mount_31 : decode cX3_mount 31 = .ok (.ifCond .eq 8, 3) := by decide +kernel
theorem dX3_mount_34 : decode cX3_mount 34 = .ok (.aload_n 0, 1) := by decide +kernel
theorem dX3_mount_35 : decode cX3_mount 35 = .ok (.invokevirtual 135, 3) := by decide +kernel
theorem dX3_mount_38 : decode cX3_mount 38 = .ok (.pop, 1) := by decide +kernel
theorem dX3_mount_39 : decode cX3_mount 39 = .ok (.aload_n 0, 1) := by decide +kernel
theorem dX3_mount_40 : decode cX3_mount 40 = .ok (.getfield 28, 3) := by decide +kernel
theorem dX3_mount_43 : decode cX3_mount 43 = .ok (.iconst 1, 1) := by decide +kernel
theorem dX3_mount_44 : decode cX3_mount 44 = .ok (.invokevirtual 130, 3) := by decide +kernel
theorem dX3_mount_47 : decode cX3_mount 47 = .ok (.ifCond .le 12, 3) := by decide +kernel
theorem dX3_mount_50 : decode cX3_mount 50 = .ok (.aload_n 0, 1) := by decide +kernel
theorem dX3_mount_51 : decode cX3_mount 51 = .ok (.invokevirtual 146, 3) := by decide +kernel
theorem dX3_mount_54 : decode cX3_mount 54 = .ok (.aload_n 0, 1) := by decide +kernel
theorem dX3_mount_55 : decode cX3_mount 55 = .ok (.invokevirtual 87, 3) := by decide +kernel
theorem dX3_mount_58 : decode cX3_mount 58 = .ok (.pop, 1) := by decide +kernel
theorem dX3_mount_59 : decode cX3_mount 59 = .ok (.aload_n 0, 1) := by decide +kernel
theorem dX3_mount_60 : decode cX3_mount 60 = .ok (.getfield 28, 3) := by decide +kernel
theorem dX3_mount_63 : decode cX3_mount 63 = .ok (.iconst 2, 1) := by decide +kernel
theorem dX3_mount_64 : decode cX3_mount 64 = .ok (.invokevirtual 130, 3) := by decide +kernel
theorem dX3_mount_67 : decode cX3_mount 67 = .ok (.ireturn, 1) := by decide +kernel
set_option maxRecDepth 20000 in
theorem ggX3_cutAfter_X3_requirePower : GoodIn wsX3_cutAfter wsX3_requirePower := goodIn_ca (goodIn_r _ [8, 9, 10, 3, 11, 12, 13, 14, 15, 16, 22, 23, 24, 25, 26, 27, 28, 29, 30] (by decide +kernel) (by decide +kernel)) (goodIn_sub (fun _ h => List.mem_cons_of_mem _ (List.mem_append_right _ h)) (by decide +kernel))
set_option maxRecDepth 20000 in
theorem gX3_cutAfter_X3_requirePower : GoodIn wsX3_cutAfter (wsV RX3 46 RX3 yX3_requirePower wsX3_requirePower) := goodIn_app (goodIn_of _ (by decide +kernel)) ggX3_cutAfter_X3_requirePower
set_option maxRecDepth 20000 in
theorem ggX3_cutAfter_X1_failAfter : GoodIn wsX3_cutAfter wsX1_failAfter := goodIn_r _ [20, 21, 28, 29, 30] (by decide +kernel) (by decide +kernel)
set_option maxRecDepth 20000 in
theorem gX3_cutAfter_X1_failAfter : GoodIn wsX3_cutAfter (wsV RX3 151 RX1 yX1_failAfter wsX1_failAfter) := goodIn_app (goodIn_of _ (by decide +kernel)) ggX3_cutAfter_X1_failAfter
theorem dX3_cutAfter_0 : decode cX3_cutAfter 0 = .ok (.aload_n 0, 1) := by decide +kernel
theorem dX3_cutAfter_1 : decode cX3_cutAfter 1 = .ok (.invokevirtual 46, 3) := by decide +kernel
theorem dX3_cutAfter_4 : decode cX3_cutAfter 4 = .ok (.iload_n 1, 1) := by decide +kernel
theorem dX3_cutAfter_5 : decode cX3_cutAfter 5 = .ok (.iconst (-1), 1) := by decide +kernel
theorem dX3_cutAfter_6 : decode cX3_cutAfter 6 = .ok (.if_icmp .ge 13, 3) := by decide +kernel
theorem dX3_cutAfter_9 : decode cX3_cutAfter 9 = .ok (.new 52, 3) := by decide +kernel
theorem dX3_cutAfter_12 : decode cX3_cutAfter 12 = .ok (.dup, 1) := by decide +kernel
theorem dX3_cutAfter_13 : decode cX3_cutAfter 13 = .ok (.ldc 149, 2) := by decide +kernel
theorem dX3_cutAfter_15 : decode cX3_cutAfter 15 = .ok (.invokespecial 56, 3) := by decide +kernel
theorem dX3_cutAfter_18 : decode cX3_cutAfter 18 = .ok (.athrow, 1) := by decide +kernel
theorem dX3_cutAfter_19 : decode cX3_cutAfter 19 = .ok (.aload_n 0, 1) := by decide +kernel
theorem dX3_cutAfter_20 : decode cX3_cutAfter 20 = .ok (.getfield 10, 3) := by decide +kernel
theorem dX3_cutAfter_23 : decode cX3_cutAfter 23 = .ok (.iload_n 1, 1) := by decide +kernel
theorem dX3_cutAfter_24 : decode cX3_cutAfter 24 = .ok (.invokevirtual 151, 3) := by decide +kernel
theorem dX3_cutAfter_27 : decode cX3_cutAfter 27 = .ok (.return_, 1) := by decide +kernel
set_option maxRecDepth 20000 in
theorem ggX3_entries_X3_requirePower : GoodIn wsX3_entries wsX3_requirePower := goodIn_ca (goodIn_r _ [6, 7, 8, 9, 10, 11, 12, 13, 14, 15, 22, 23, 24, 25, 26, 27, 28, 29, 30] (by decide +kernel) (by decide +kernel)) (goodIn_sub (fun _ h => List.mem_cons_of_mem _ (List.mem_append_right _ h)) (by decide +kernel))
set_option maxRecDepth 20000 in
theorem gX3_entries_X3_requirePower : GoodIn wsX3_entries (wsV RX3 46 RX3 yX3_requirePower wsX3_requirePower) := goodIn_app (goodIn_of _ (by decide +kernel)) ggX3_entries_X3_requirePower
set_option maxRecDepth 20000 in
theorem ggX3_entries_X0_count : GoodIn wsX3_entries wsX0_count := goodIn_r _ [20, 21, 31, 32, 33, 34, 35] (by decide +kernel) (by decide +kernel)
set_option maxRecDepth 20000 in
theorem gX3_entries_X0_count : GoodIn wsX3_entries (wsV RX3 156 RX0 yX0_count wsX0_count) := goodIn_app (goodIn_of _ (by decide +kernel)) ggX3_entries_X0_count
theorem dX3_entries_0 : decode cX3_entries 0 = .ok (.aload_n 0, 1) := by decide +kernel
theorem dX3_entries_1 : decode cX3_entries 1 = .ok (.invokevirtual 46, 3) := by decide +kernel
theorem dX3_entries_4 : decode cX3_entries 4 = .ok (.aload_n 0, 1) := by decide +kernel
theorem dX3_entries_5 : decode cX3_entries 5 = .ok (.getfield 28, 3) := by decide +kernel
theorem dX3_entries_8 : decode cX3_entries 8 = .ok (.invokevirtual 156, 3) := by decide +kernel
theorem dX3_entries_11 : decode cX3_entries 11 = .ok (.ireturn, 1) := by decide +kernel
set_option maxRecDepth 20000 in
theorem ggX3_free_X3_requirePower : GoodIn wsX3_free wsX3_requirePower := goodIn_ca (goodIn_r _ [6, 7, 8, 9, 10, 11, 12, 13, 14, 15, 38, 39, 40, 41, 42, 43, 44, 45, 46] (by decide +kernel) (by decide +kernel)) (goodIn_sub (fun _ h => List.mem_cons_of_mem _ (List.mem_append_right _ h)) (by decide +kernel))
set_option maxRecDepth 20000 in
theorem gX3_free_X3_requirePower : GoodIn wsX3_free (wsV RX3 46 RX3 yX3_requirePower wsX3_requirePower) := goodIn_app (goodIn_of _ (by decide +kernel)) ggX3_free_X3_requirePower
set_option maxRecDepth 20000 in
theorem ggX3_free_X0_longestEmpty : GoodIn wsX3_free wsX0_longestEmpty := goodIn_r _ [20, 21, 22, 23, 24, 25, 26, 27, 28, 29, 30, 31, 32, 33, 47, 48, 49, 50, 51, 52] (by decide +kernel) (by decide +kernel)
set_option maxRecDepth 20000 in
theorem gX3_free_X0_longestEmpty : GoodIn wsX3_free (wsV RX3 170 RX0 yX0_longestEmpty wsX0_longestEmpty) := goodIn_app (goodIn_of _ (by decide +kernel)) ggX3_free_X0_longestEmpty
set_option maxRecDepth 20000 in
theorem ggX3_free_X0_emptyBlocks : GoodIn wsX3_free wsX0_emptyBlocks := goodIn_r _ [37, 21, 22, 23, 28, 29, 30, 31, 32, 33, 47, 48, 49, 50, 51, 52] (by decide +kernel) (by decide +kernel)
set_option maxRecDepth 20000 in
theorem gX3_free_X0_emptyBlocks : GoodIn wsX3_free (wsV RX3 113 RX0 yX0_emptyBlocks wsX0_emptyBlocks) := goodIn_app (goodIn_of _ (by decide +kernel)) ggX3_free_X0_emptyBlocks
theorem dX3_free_0 : decode cX3_free 0 = .ok (.aload_n 0, 1) := by decide +kernel
theorem dX3_free_1 : decode cX3_free 1 = .ok (.invokevirtual 46, 3) := by decide +kernel
theorem dX3_free_4 : decode cX3_free 4 = .ok (.iload_n 1, 1) := by decide +kernel
theorem dX3_free_5 : decode cX3_free 5 = .ok (.ifCond .eq 13, 3) := by decide +kernel
theorem dX3_free_8 : decode cX3_free 8 = .ok (.aload_n 0, 1) := by decide +kernel
theorem dX3_free_9 : decode cX3_free 9 = .ok (.getfield 28, 3) := by decide +kernel
theorem dX3_free_12 : decode cX3_free 12 = .ok (.invokevirtual 170, 3) := by decide +kernel
theorem dX3_free_15 : decode cX3_free 15 = .ok (.goto 10, 3) := by decide +kernel
theorem dX3_free_18 : decode cX3_free 18 = .ok (.aload_n 0, 1) := by decide +kernel
theorem dX3_free_19 : decode cX3_free 19 = .ok (.getfield 28, 3) := by decide +kernel
theorem dX3_free_22 : decode cX3_free 22 = .ok (.invokevirtual 113, 3) := by decide +kernel
theorem dX3_free_25 : decode cX3_free 25 = .ok (.ireturn, 1) := by decide +kernel
set_option maxRecDepth 20000 in
theorem ggX3_handle_X3_requirePower : GoodIn wsX3_handle wsX3_requirePower := goodIn_ca (goodIn_r _ [6, 7, 8, 9, 10, 11, 12, 13, 14, 15, 35, 36, 37, 38, 39, 40, 41, 42, 43] (by decide +kernel) (by decide +kernel)) (goodIn_sub (fun _ h => List.mem_cons_of_mem _ (List.mem_append_right _ h)) (by decide +kernel))
set_option maxRecDepth 20000 in
theorem gX3_handle_X3_requirePower : GoodIn wsX3_handle (wsV RX3 46 RX3 yX3_requirePower wsX3_requirePower) := goodIn_app (goodIn_of _ (by decide +kernel)) ggX3_handle_X3_requirePower
set_option maxRecDepth 20000 in
theorem ggX3_handle_X0_leastHandleOf : GoodIn wsX3_handle wsX0_leastHandleOf := goodIn_r _ [20, 21, 22, 23, 24, 19, 25, 26, 27, 28, 29, 30, 31, 32, 33, 34, 44, 45, 46, 47, 48, 49] (by decide +kernel) (by decide +kernel)
set_option maxRecDepth 20000 in
theorem gX3_handle_X0_leastHandleOf : GoodIn wsX3_handle (wsV RX3 173 RX0 yX0_leastHandleOf wsX0_leastHandleOf) := goodIn_app (goodIn_of _ (by decide +kernel)) ggX3_handle_X0_leastHandleOf
theorem dX3_handle_0 : decode cX3_handle 0 = .ok (.aload_n 0, 1) := by decide +kernel
theorem dX3_handle_1 : decode cX3_handle 1 = .ok (.invokevirtual 46, 3) := by decide +kernel
theorem dX3_handle_4 : decode cX3_handle 4 = .ok (.aload_n 0, 1) := by decide +kernel
theorem dX3_handle_5 : decode cX3_handle 5 = .ok (.getfield 28, 3) := by decide +kernel
theorem dX3_handle_8 : decode cX3_handle 8 = .ok (.iload_n 1, 1) := by decide +kernel
theorem dX3_handle_9 : decode cX3_handle 9 = .ok (.invokevirtual 173, 3) := by decide +kernel
theorem dX3_handle_12 : decode cX3_handle 12 = .ok (.ireturn, 1) := by decide +kernel
set_option maxRecDepth 20000 in
theorem ggX3_isOn_X1_isUp : GoodIn wsX3_isOn wsX1_isUp := goodIn_r _ [6, 7, 14, 15, 16] (by decide +kernel) (by decide +kernel)
set_option maxRecDepth 20000 in
theorem gX3_isOn_X1_isUp : GoodIn wsX3_isOn (wsV RX3 138 RX1 yX1_isUp wsX1_isUp) := goodIn_app (goodIn_of _ (by decide +kernel)) ggX3_isOn_X1_isUp
theorem dX3_isOn_0 : decode cX3_isOn 0 = .ok (.aload_n 0, 1) := by decide +kernel
theorem dX3_isOn_1 : decode cX3_isOn 1 = .ok (.getfield 10, 3) := by decide +kernel
