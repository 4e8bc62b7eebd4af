theorem dL_same_0 : decode cL_same 0 = .ok (.iconst 0, 1) := by decide +kernel
theorem dL_same_1 : decode cL_same 1 = .ok (.istore_n 2, 1) := by decide +kernel
theorem dL_same_2 : decode cL_same 2 = .ok (.iconst 1, 1) := by decide +kernel
theorem dL_same_3 : decode cL_same 3 = .ok (.istore_n 3, 1) := by decide +kernel
theorem dL_same_4 : decode cL_same 4 = .ok (.iload_n 3, 1) := by decide +kernel
theorem dL_same_5 : decode cL_same 5 = .ok (.bipush 7, 2) := by decide +kernel
theorem dL_same_7 : decode cL_same 7 = .ok (.if_icmp .ge 88, 3) := by decide +kernel
theorem dL_same_10 : decode cL_same 10 = .ok (.iload_n 2, 1) := by decide +kernel
theorem dL_same_11 : decode cL_same 11 = .ok (.aload_n 1, 1) := by decide +kernel
theorem dL_same_12 : decode cL_same 12 = .ok (.iload_n 3, 1) := by decide +kernel
theorem dL_same_13 : decode cL_same 13 = .ok (.iaload, 1) := by decide +kernel
theorem dL_same_14 : decode cL_same 14 = .ok (.iadd, 1) := by decide +kernel
theorem dL_same_15 : decode cL_same 15 = .ok (.istore_n 2, 1) := by decide +kernel
theorem dL_same_16 : decode cL_same 16 = .ok (.iconst 0, 1) := by decide +kernel
theorem dL_same_17 : decode cL_same 17 = .ok (.istore 4, 2) := by decide +kernel
theorem dL_same_19 : decode cL_same 19 = .ok (.iload 4, 2) := by decide +kernel
theorem dL_same_21 : decode cL_same 21 = .ok (.aload_n 1, 1) := by decide +kernel
theorem dL_same_22 : decode cL_same 22 = .ok (.iload_n 3, 1) := by decide +kernel
theorem dL_same_23 : decode cL_same 23 = .ok (.iaload, 1) := by decide +kernel
theorem dL_same_24 : decode cL_same 24 = .ok (.if_icmp .ge 30, 3) := by decide +kernel
theorem dL_same_27 : decode cL_same 27 = .ok (.aload_n 0, 1) := by decide +kernel
theorem dL_same_28 : decode cL_same 28 = .ok (.iload_n 3, 1) := by decide +kernel
theorem dL_same_29 : decode cL_same 29 = .ok (.iload 4, 2) := by decide +kernel
theorem dL_same_31 : decode cL_same 31 = .ok (.invokestatic 114, 3) := by decide +kernel
theorem dL_same_34 : decode cL_same 34 = .ok (.aload_n 1, 1) := by decide +kernel
theorem dL_same_35 : decode cL_same 35 = .ok (.bipush 8, 2) := by decide +kernel
theorem dL_same_37 : decode cL_same 37 = .ok (.iload_n 3, 1) := by decide +kernel
theorem dL_same_38 : decode cL_same 38 = .ok (.iadd, 1) := by decide +kernel
theorem dL_same_39 : decode cL_same 39 = .ok (.iaload, 1) := by decide +kernel
theorem dL_same_40 : decode cL_same 40 = .ok (.iload 4, 2) := by decide +kernel
theorem dL_same_42 : decode cL_same 42 = .ok (.iadd, 1) := by decide +kernel
theorem dL_same_43 : decode cL_same 43 = .ok (.if_icmp .eq 5, 3) := by decide +kernel
theorem dL_same_46 : decode cL_same 46 = .ok (.iconst 0, 1) := by decide +kernel
theorem dL_same_47 : decode cL_same 47 = .ok (.ireturn, 1) := by decide +kernel
theorem dL_same_48 : decode cL_same 48 = .ok (.iinc 4 1, 3) := by decide +kernel
theorem dL_same_51 : decode cL_same 51 = .ok (.goto (-32), 3) := by decide +kernel
theorem dL_same_54 : decode cL_same 54 = .ok (.aload_n 0, 1) := by decide +kernel
theorem dL_same_55 : decode cL_same 55 = .ok (.iload_n 3, 1) := by decide +kernel
theorem dL_same_56 : decode cL_same 56 = .ok (.aload_n 1, 1) := by decide +kernel
theorem dL_same_57 : decode cL_same 57 = .ok (.iload_n 3, 1) := by decide +kernel
theorem dL_same_58 : decode cL_same 58 = .ok (.iaload, 1) := by decide +kernel
theorem dL_same_59 : decode cL_same 59 = .ok (.invokestatic 114, 3) := by decide +kernel
theorem dL_same_62 : decode cL_same 62 = .ok (.aload_n 1, 1) := by decide +kernel
theorem dL_same_63 : decode cL_same 63 = .ok (.iload_n 3, 1) := by decide +kernel
theorem dL_same_64 : decode cL_same 64 = .ok (.iaload, 1) := by decide +kernel
theorem dL_same_65 : decode cL_same 65 = .ok (.ifCond .le 8, 3) := by decide +kernel
theorem dL_same_68 : decode cL_same 68 = .ok (.ldc 40, 2) := by decide +kernel
theorem dL_same_70 : decode cL_same 70 = .ok (.goto 5, 3) := by decide +kernel
theorem dL_same_73 : decode cL_same 73 = .ok (.ldc 39, 2) := by decide +kernel
theorem dL_same_75 : decode cL_same 75 = .ok (.if_icmp .ne 12, 3) := by decide +kernel
theorem dL_same_78 : decode cL_same 78 = .ok (.aload_n 0, 1) := by decide +kernel
theorem dL_same_79 : decode cL_same 79 = .ok (.iload_n 3, 1) := by decide +kernel
theorem dL_same_80 : decode cL_same 80 = .ok (.invokestatic 117, 3) := by decide +kernel
theorem dL_same_83 : decode cL_same 83 = .ok (.iconst (-1), 1) := by decide +kernel
theorem dL_same_84 : decode cL_same 84 = .ok (.if_icmp .eq 5, 3) := by decide +kernel
theorem dL_same_87 : decode cL_same 87 = .ok (.iconst 0, 1) := by decide +kernel
theorem dL_same_88 : decode cL_same 88 = .ok (.ireturn, 1) := by decide +kernel
theorem dL_same_89 : decode cL_same 89 = .ok (.iinc 3 1, 3) := by decide +kernel
theorem dL_same_92 : decode cL_same 92 = .ok (.goto (-88), 3) := by decide +kernel
theorem dL_same_95 : decode cL_same 95 = .ok (.aload_n 0, 1) := by decide +kernel
theorem dL_same_96 : decode cL_same 96 = .ok (.iconst 0, 1) := by decide +kernel
theorem dL_same_97 : decode cL_same 97 = .ok (.invokestatic 80, 3) := by decide +kernel
theorem dL_same_100 : decode cL_same 100 = .ok (.bipush 48, 2) := by decide +kernel
theorem dL_same_102 : decode cL_same 102 = .ok (.iload_n 2, 1) := by decide +kernel
theorem dL_same_103 : decode cL_same 103 = .ok (.isub, 1) := by decide +kernel
theorem dL_same_104 : decode cL_same 104 = .ok (.if_icmp .ne 7, 3) := by decide +kernel
theorem dL_same_107 : decode cL_same 107 = .ok (.iconst 1, 1) := by decide +kernel
theorem dL_same_108 : decode cL_same 108 = .ok (.goto 4, 3) := by decide +kernel
theorem dL_same_111 : decode cL_same 111 = .ok (.iconst 0, 1) := by decide +kernel
theorem dL_same_112 : decode cL_same 112 = .ok (.ireturn, 1) := by decide +kernel
set_option maxRecDepth 20000 in
theorem ggL_law_X3_init : GoodIn wsL_law wsX3_init := goodIn_r _ [6, 7, 8, 9, 10, 11, 12, 13, 14, 15, 16, 17, 18, 19, 20, 21, 22, 23, 24, 25, 26, 27, 28, 29, 30, 31, 32, 33, 34, 35, 36, 37, 38, 39, 3, 40, 41, 42, 43, 44, 45, 46, 47, 48, 49, 50, 51, 52, 53, 54, 55, 56, 57, 58, 59, 60, 61, 62, 63, 64, 65, 66, 67, 387, 388, 389, 381, 382, 383, 384, 385, 386, 390, 391, 392, 393, 394, 395] (by decide +kernel) (by decide +kernel)
set_option maxRecDepth 20000 in
theorem gL_law_X3_init : GoodIn wsL_law (wsX3_init) := ggL_law_X3_init
set_option maxRecDepth 20000 in
theorem ggL_law_L_cuts : GoodIn wsL_law wsL_cuts := goodIn_ca (goodIn_ca (goodIn_r _ [71, 72, 73, 74, 75, 76, 2, 77, 78, 79, 13, 80, 81, 82, 83, 84, 85, 86, 87, 88, 12, 89, 29, 90, 91, 92, 93, 30, 381, 382, 383, 384, 385, 386, 387, 388, 389] (by decide +kernel) (by decide +kernel)) (goodIn_sub (fun _ h => List.mem_append_left _ (List.mem_append_left _ (List.mem_append_left _ (List.mem_append_right _ h)))) (by decide +kernel))) (goodIn_sub (fun _ h => List.mem_append_left _ (List.mem_append_left _ (List.mem_append_right _ h))) (by decide +kernel))
set_option maxRecDepth 20000 in
theorem gL_law_L_cuts : GoodIn wsL_law (va_wsS RL 121 yL_cuts wsL_cuts) := goodIn_app (goodIn_of _ (by decide +kernel)) ggL_law_L_cuts
set_option maxRecDepth 20000 in
theorem ggL_law_L_store : GoodIn wsL_law wsL_store := goodIn_ca (goodIn_ca (goodIn_ca (goodIn_ca (goodIn_r _ [96, 97, 98, 70, 99, 72, 73, 100, 101, 102, 103, 2, 104, 78, 79, 84, 85, 105, 106, 21, 80, 81, 82, 83, 13, 86, 87, 88, 12, 89, 29, 107, 108, 109, 110, 111, 112, 113, 20, 114, 115, 116, 117, 118, 50, 46, 49, 60, 61, 62, 16, 63, 40, 119, 120, 121, 122, 47, 123, 124, 38, 125, 126, 37, 39, 127, 128, 129, 130, 131, 132, 133, 134, 22, 135, 136, 137, 138, 139, 140, 141, 142, 143, 144, 145, 146, 147, 148, 149, 150, 151, 152, 153, 154, 48, 155, 156, 157, 158, 56, 57, 58, 59, 64, 65, 66, 67, 159, 160, 52, 53, 54, 55, 161, 162, 163, 164, 165, 166, 167, 168, 169, 170, 171, 172, 173, 174, 175, 176, 30, 31, 177, 178, 179, 180, 181, 182, 183, 184, 185, 186, 187, 188, 189, 190, 191, 192, 193, 194, 195, 196, 197, 198, 199, 200, 201, 202, 203, 204, 205, 206, 207, 208, 209, 210, 211, 212, 213, 214, 215, 216, 217, 218, 219, 220, 221, 222, 223, 224, 225, 226, 227, 228, 229, 230, 231, 232, 233, 234, 235, 236, 237, 238, 17, 239, 240, 241, 242, 243, 244, 245, 246, 247, 248, 249, 250, 251, 252, 253, 254, 255, 256, 257, 258, 259, 260, 261, 262, 263, 264, 265, 266, 267, 268, 269, 270, 271, 272, 381, 382, 383, 384, 385, 386, 387, 388, 389, 391, 392, 393, 394, 395, 390] (by decide +kernel) (by decide +kernel)) (goodIn_sub (fun _ h => List.mem_append_left _ (List.mem_append_left _ (List.mem_append_left _ (List.mem_append_right _ h)))) (by decide +kernel))) (goodIn_sub (fun _ h => List.mem_append_left _ (List.mem_append_left _ (List.mem_append_right _ h))) (by decide +kernel))) (goodIn_sub (fun _ h => List.mem_append_left _ (List.mem_append_right _ h)) (by decide +kernel))) (goodIn_sub (fun _ h => List.mem_append_right _ h) (by decide +kernel))
set_option maxRecDepth 20000 in
theorem gL_law_L_store : GoodIn wsL_law (va_wsS RL 124 yL_store wsL_store) := goodIn_app (goodIn_of _ (by decide +kernel)) ggL_law_L_store
set_option maxRecDepth 20000 in
theorem ggL_law_L_remove : GoodIn wsL_law wsL_remove := goodIn_ca (goodIn_ca (goodIn_r _ [275, 276, 277, 70, 278, 72, 215, 279, 280, 281, 2, 282, 80, 81, 82, 83, 84, 85, 13, 86, 87, 88, 12, 89, 29, 283, 284, 285, 286, 224, 225, 21, 252, 253, 254, 20, 255, 50, 46, 48, 60, 61, 62, 16, 63, 40, 269, 270, 271, 272, 160, 148, 149, 150, 47, 131, 132, 133, 134, 22, 135, 136, 137, 138, 139, 140, 141, 142, 143, 144, 145, 146, 147, 151, 152, 153, 154, 155, 156, 157, 158, 49, 56, 57, 58, 59, 64, 65, 66, 67, 159, 52, 53, 54, 55, 161, 162, 163, 164, 169, 170, 171, 172, 173, 174, 175, 176, 30, 31, 177, 178, 179, 180, 181, 182, 183, 184, 185, 208, 209, 210, 211, 381, 382, 383, 384, 385, 386, 387, 388, 389, 391, 392, 393, 394, 395, 390] (by decide +kernel) (by decide +kernel)) (goodIn_sub (fun _ h => List.mem_append_left _ (List.mem_append_left _ (List.mem_append_right _ h))) (by decide +kernel))) (goodIn_sub (fun _ h => List.mem_append_right _ h) (by decide +kernel))
set_option maxRecDepth 20000 in
theorem gL_law_L_remove : GoodIn wsL_law (va_wsS RL 128 yL_remove wsL_remove) := goodIn_app (goodIn_of _ (by decide +kernel)) ggL_law_L_remove
set_option maxRecDepth 20000 in
theorem ggL_law_L_call : GoodIn wsL_law wsL_call := goodIn_ca (goodIn_ca (goodIn_ca (goodIn_ca (goodIn_r _ [289, 290, 291, 70, 292, 72, 73, 215, 100, 293, 294, 295, 2, 296, 105, 106, 21, 80, 81, 82, 83, 84, 85, 13, 86, 87, 88, 12, 89, 29, 107, 108, 109, 110, 78, 79, 283, 284, 285, 286, 224, 225, 252, 253, 254, 20, 255, 50, 46, 48, 60, 61, 62, 16, 63, 40, 160, 148, 149, 150, 47, 131, 132, 133, 134, 22, 135, 136, 137, 138, 139, 140, 141, 142, 143, 144, 145, 146, 147, 151, 152, 153, 154, 155, 156, 157, 158, 49, 56, 57, 58, 59, 64, 65, 66, 67, 159, 52, 53, 54, 55, 161, 162, 163, 164, 169, 170, 171, 172, 173, 174, 175, 176, 30, 31, 177, 178, 179, 180, 181, 182, 183, 184, 185, 208, 209, 210, 211, 381, 382, 383, 384, 385, 386, 387, 388, 389, 391, 392, 393, 394, 395, 390] (by decide +kernel) (by decide +kernel)) (goodIn_sub (fun _ h => List.mem_append_left _ (List.mem_append_right _ h)) (by decide +kernel))) (goodIn_sub (fun _ h => List.mem_append_left _ (List.mem_append_left _ (List.mem_append_right _ h))) (by decide +kernel))) (goodIn_sub (fun _ h => List.mem_append_left _ (List.mem_append_left _ (List.mem_append_left _ (List.mem_append_right _ h)))) (by decide +kernel))) (goodIn_sub (fun _ h => List.mem_append_right _ h) (by decide +kernel))
set_option maxRecDepth 20000 in
theorem gL_law_L_call : GoodIn wsL_law (va_wsS RL 132 yL_call wsL_call) := goodIn_app (goodIn_of _ (by decide +kernel)) ggL_law_L_call
set_option maxRecDepth 20000 in
theorem ggL_law_L_squeezes : GoodIn wsL_law wsL_squeezes := goodIn_ca (goodIn_r _ [299, 72, 300, 301, 302, 2, 303, 84, 85, 21, 80, 81, 82, 83, 13, 86, 87, 88, 12, 89, 29, 304, 305, 306, 20, 307, 50, 46, 60, 61, 62, 16, 63, 40, 308, 309, 310, 311, 23, 312, 313, 314, 315, 160, 148, 149, 150, 47, 316, 317, 318, 319, 24, 320, 321, 322, 323, 324, 124, 38, 125, 325, 37, 39, 17, 231, 232, 233, 234, 326, 327, 328, 329, 173, 174, 175, 176, 30, 31, 330, 235, 236, 237, 238, 239, 65, 66, 67, 331, 332, 333, 334, 22, 135, 136, 137, 138, 139, 140, 141, 142, 143, 144, 145, 146, 147, 151, 152, 153, 154, 48, 155, 156, 157, 158, 49, 56, 57, 58, 59, 64, 52, 53, 54, 55, 161, 162, 163, 164, 169, 170, 171, 172, 177, 178, 179, 180, 181, 182, 183, 184, 185, 381, 382, 383, 384, 385, 386, 387, 388, 389, 391, 392, 393, 394, 395, 390] (by decide +kernel) (by decide +kernel)) (goodIn_sub (fun _ h => List.mem_append_left _ (List.mem_append_left _ (List.mem_append_right _ h))) (by decide +kernel))
set_option maxRecDepth 20000 in
theorem gL_law_L_squeezes : GoodIn wsL_law (va_wsS RL 136 yL_squeezes wsL_squeezes) := goodIn_app (goodIn_of _ (by decide +kernel)) ggL_law_L_squeezes
set_option maxRecDepth 20000 in
theorem ggL_law_X3_isOn : GoodIn wsL_law wsX3_isOn := goodIn_r _ [211, 13, 86, 87, 88, 12, 89, 29, 381, 382, 383, 384, 385, 386, 387, 388, 389] (by decide +kernel) (by decide +kernel)
set_option maxRecDepth 20000 in
theorem gL_law_X3_isOn : GoodIn wsL_law (wsV RL 62 RX3 yX3_isOn wsX3_isOn) := goodIn_app (goodIn_of _ (by decide +kernel)) ggL_law_X3_isOn
set_option maxRecDepth 20000 in
theorem ggL_law_L_mended : GoodIn wsL_law wsL_mended := goodIn_ca (goodIn_r _ [337, 208, 209, 210, 2, 211, 13, 86, 87, 88, 12, 89, 29, 338, 339, 70, 340, 72, 341, 342, 343, 344, 84, 85, 23, 21, 345, 346, 347, 348, 30, 308, 309, 310, 311, 312, 313, 314, 20, 315, 50, 46, 60, 61, 62, 16, 63, 40, 160, 148, 149, 150, 47, 316, 317, 318, 319, 24, 320, 321, 322, 323, 324, 124, 38, 125, 325, 37, 39, 17, 231, 232, 233, 234, 326, 327, 328, 329, 173, 174, 175, 176, 31, 330, 235, 236, 237, 238, 239, 65, 66, 67, 331, 332, 333, 334, 22, 135, 136, 137, 138, 139, 140, 141, 142, 143, 144, 145, 146, 147, 151, 152, 153, 154, 48, 155, 156, 157, 158, 49, 56, 57, 58, 59, 64, 52, 53, 54, 55, 161, 162, 163, 164, 169, 170, 171, 172, 177, 178, 179, 180, 181, 182, 183, 184, 185, 304, 305, 306, 307, 349, 350, 351, 352, 353, 354, 355, 356, 381, 382, 383, 384, 385, 386, 387, 388, 389, 391, 392, 393, 394, 395, 390] (by decide +kernel) (by decide +kernel)) (goodIn_sub (fun _ h => List.mem_append_left _ (List.mem_append_left _ (List.mem_append_right _ h))) (by decide +kernel))
set_option maxRecDepth 20000 in
theorem gL_law_L_mended : GoodIn wsL_law (va_wsS RL 139 yL_mended wsL_mended) := goodIn_app (goodIn_of _ (by decide +kernel)) ggL_law_L_mended
set_option maxRecDepth 20000 in
theorem ggL_law_L_same : GoodIn wsL_law wsL_same := goodIn_ca (goodIn_ca (goodIn_ca (goodIn_r _ [359, 360, 361, 362, 363, 70, 364, 72, 215, 73, 365, 366, 367, 368, 2, 369, 17, 21, 80, 81, 82, 83, 84, 85, 13, 86, 87, 88, 12, 89, 29, 283, 284, 285, 286, 224, 225, 252, 253, 254, 20, 255, 50, 46, 48, 60, 61, 62, 16, 63, 40, 227, 228, 229, 230, 78, 79, 160, 148, 149, 150, 47, 231, 232, 233, 234, 330, 370, 371, 372, 373, 374, 375, 376, 377, 378, 379, 380, 115, 116, 117, 118, 49, 186, 187, 188, 189, 190, 191, 192, 193, 194, 195, 196, 126, 37, 38, 39, 197, 198, 199, 200, 381, 382, 383, 384, 385, 386, 387, 388, 389, 391, 392, 393, 394, 395, 390] (by decide +kernel) (by decide +kernel)) (goodIn_sub (fun _ h => List.mem_append_left _ (List.mem_append_left _ (List.mem_append_right _ h))) (by decide +kernel))) (goodIn_sub (fun _ h => List.mem_append_right _ h) (by decide +kernel))) (goodIn_sub (fun _ h => List.mem_append_left _ (List.mem_append_left _ (List.mem_append_left _ (List.mem_append_right _ h)))) (by decide +kernel))
set_option maxRecDepth 20000 in
theorem gL_law_L_same : GoodIn wsL_law (va_wsS RL 143 yL_same wsL_same) := goodIn_app (goodIn_of _ (by decide +kernel)) ggL_law_L_same
theorem dL_law_0 : decode cL_law 0 = .ok (.new 8, 3) := by decide +kernel
theorem dL_law_3 : decode cL_law 3 = .ok (.dup, 1) := by decide +kernel
theorem dL_law_4 : decode cL_law 4 = .ok (.invokespecial 120, 3) := by decide +kernel
theorem dL_law_7 : decode cL_law 7 = .ok (.astore_n 1, 1) := by decide +kernel
theorem dL_law_8 : decode cL_law 8 = .ok (.bipush 24, 2) := by decide +kernel
theorem dL_law_10 : decode cL_law 10 = .ok (.newarray .int, 2) := by decide +kernel
theorem dL_law_12 : decode cL_law 12 = .ok (.astore_n 2, 1) := by decide +kernel
theorem dL_law_13 : decode cL_law 13 = .ok (.iconst 0, 1) := by decide +kernel
theorem dL_law_14 : decode cL_law 14 = .ok (.istore_n 3, 1) := by decide +kernel
theorem dL_law_15 : decode cL_law 15 = .ok (.iload_n 3, 1) := by decide +kernel
theorem dL_law_16 : decode cL_law 16 = .ok (.iconst 1, 1) := by decide +kernel
theorem dL_law_17 : decode cL_law 17 = .ok (.iadd, 1) := by decide +kernel
theorem dL_law_18 : decode cL_law 18 = .ok (.aload_n 0, 1) := by decide +kernel
theorem dL_law_19 : decode cL_law 19 = .ok (.arraylength, 1) := by decide +kernel
theorem dL_law_20 : decode cL_law 20 = .ok (.if_icmp .ge 232, 3) := by decide +kernel
theorem dL_law_23 : decode cL_law 23 = .ok (.iload_n 3, 1) := by decide +kernel
theorem dL_law_24 : decode cL_law 24 = .ok (.bipush 120, 2) := by decide +kernel
theorem dL_law_26 : decode cL_law 26 = .ok (.if_icmp .ge 226, 3) := by decide +kernel
theorem dL_law_29 : decode cL_law 29 = .ok (.aload_n 0, 1) := by decide +kernel
theorem dL_law_30 : decode cL_law 30 = .ok (.iload_n 3, 1) := by decide +kernel
theorem dL_law_31 : decode cL_law 31 = .ok (.iaload, 1) := by decide +kernel
theorem dL_law_32 : decode cL_law 32 = .ok (.bipush 15, 2) := by decide +kernel
theorem dL_law_34 : decode cL_law 34 = .ok (.iand, 1) := by decide +kernel
theorem dL_law_35 : decode cL_law 35 = .ok (.istore 4, 2) := by decide +kernel
theorem dL_law_37 : decode cL_law 37 = .ok (.aload_n 0, 1) := by decide +kernel
theorem dL_law_38 : decode cL_law 38 = .ok (.iload_n 3, 1) := by decide +kernel
theorem dL_law_39 : decode cL_law 39 = .ok (.iconst 1, 1) := by decide +kernel
theorem dL_law_40 : decode cL_law 40 = .ok (.iadd, 1) := by decide +kernel
theorem dL_law_41 : decode cL_law 41 = .ok (.iaload, 1) := by decide +kernel
theorem dL_law_42 : decode cL_law 42 = .ok (.istore 5, 2) := by decide +kernel
theorem dL_law_44 : decode cL_law 44 = .ok (.iconst 1, 1) := by decide +kernel
theorem dL_law_45 : decode cL_law 45 = .ok (.iload 5, 2) := by decide +kernel
theorem dL_law_47 : decode cL_law 47 = .ok (.sipush 255, 3) := by decide +kernel
theorem dL_law_50 : decode cL_law 50 = .ok (.iand, 1) := by decide +kernel
theorem dL_law_51 : decode cL_law 51 = .ok (.bipush 6, 2) := by decide +kernel
theorem dL_law_53 : decode cL_law 53 = .ok (.irem, 1) := by decide +kernel
theorem dL_law_54 : decode cL_law 54 = .ok (.iadd, 1) := by decide +kernel
theorem dL_law_55 : decode cL_law 55 = .ok (.istore 6, 2) := by decide +kernel
theorem dL_law_57 : decode cL_law 57 = .ok (.aload_n 0, 1) := by decide +kernel
theorem dL_law_58 : decode cL_law 58 = .ok (.iload_n 3, 1) := by decide +kernel
theorem dL_law_59 : decode cL_law 59 = .ok (.iaload, 1) := by decide +kernel
theorem dL_law_60 : decode cL_law 60 = .ok (.iconst 4, 1) := by decide +kernel
theorem dL_law_61 : decode cL_law 61 = .ok (.ishr, 1) := by decide +kernel
theorem dL_law_62 : decode cL_law 62 = .ok (.iconst 3, 1) := by decide +kernel
theorem dL_law_63 : decode cL_law 63 = .ok (.iand, 1) := by decide +kernel
theorem dL_law_64 : decode cL_law 64 = .ok (.ifCond .ne 25, 3) := by decide +kernel
theorem dL_law_67 : decode cL_law 67 = .ok (.aload_n 1, 1) := by decide +kernel
theorem dL_law_68 : decode cL_law 68 = .ok (.aload_n 0, 1) := by decide +kernel
theorem dL_law_69 : decode cL_law 69 = .ok (.iload_n 3, 1) := by decide +kernel
theorem dL_law_70 : decode cL_law 70 = .ok (.iaload, 1) := by decide +kernel
theorem dL_law_71 : decode cL_law 71 = .ok (.bipush 6, 2) := by decide +kernel
theorem dL_law_73 : decode cL_law 73 = .ok (.ishr, 1) := by decide +kernel
theorem dL_law_74 : decode cL_law 74 = .ok (.sipush 255, 3) := by decide +kernel
theorem dL_law_77 : decode cL_law 77 = .ok (.iand, 1) := by decide +kernel
theorem dL_law_78 : decode cL_law 78 = .ok (.bipush 41, 2) := by decide +kernel
theorem dL_law_80 : decode cL_law 80 = .ok (.irem, 1) := by decide +kernel
theorem dL_law_81 : decode cL_law 81 = .ok (.invokestatic 121, 3) := by decide +kernel
theorem dL_law_84 : decode cL_law 84 = .ok (.ifCond .eq 5, 3) := by decide +kernel
theorem dL_law_87 : decode cL_law 87 = .ok (.iconst 0, 1) := by decide +kernel
theorem dL_law_88 : decode cL_law 88 = .ok (.ireturn, 1) := by decide +kernel
theorem dL_law_89 : decode cL_law 89 = .ok (.iload 4, 2) := by decide +kernel
theorem dL_law_91 : decode cL_law 91 = .ok (.bipush 7, 2) := by decide +kernel
theorem dL_law_93 : decode cL_law 93 = .ok (.if_icmp .ge 47, 3) := by decide +kernel
theorem dL_law_96 : decode cL_law 96 = .ok (.iconst 1, 1) := by decide +kernel
theorem dL_law_97 : decode cL_law 97 = .ok (.iload 5, 2) := by decide +kernel
theorem dL_law_99 : decode cL_law 99 = .ok (.bipush 8, 2) := by decide +kernel
theorem dL_law_101 : decode cL_law 101 = .ok (.ishr, 1) := by decide +kernel
theorem dL_law_102 : decode cL_law 102 = .ok (.sipush 255, 3) := by decide +kernel
theorem dL_law_105 : decode cL_law 105 = .ok (.iand, 1) := by decide +kernel
theorem dL_law_106 : decode cL_law 106 = .ok (.bipush 9, 2) := by decide +kernel
theorem dL_law_108 : decode cL_law 108 = .ok (.irem, 1) := by decide +kernel
theorem dL_law_109 : decode cL_law 109 = .ok (.iadd, 1) := by decide +kernel
theorem dL_law_110 : decode cL_law 110 = .ok (.istore 8, 2) := by decide +kernel
theorem dL_law_112 : decode cL_law 112 = .ok (.aload_n 1, 1) := by decide +kernel
theorem dL_law_113 : decode cL_law 113 = .ok (.aload_n 2, 1) := by decide +kernel
theorem dL_law_114 : decode cL_law 114 = .ok (.iload 6, 2) := by decide +kernel
theorem dL_law_116 : decode cL_law 116 = .ok (.iload 8, 2) := by decide +kernel
theorem dL_law_118 : decode cL_law 118 = .ok (.iconst 1, 1) := by decide +kernel
theorem dL_law_119 : decode cL_law 119 = .ok (.iload 5, 2) := by decide +kernel
theorem dL_law_121 : decode cL_law 121 = .ok (.bipush 16, 2) := by decide +kernel
theorem dL_law_123 : decode cL_law 123 = .ok (.ishr, 1) := by decide +kernel
theorem dL_law_124 : decode cL_law 124 = .ok (.sipush 255, 3) := by decide +kernel
theorem dL_law_127 : decode cL_law 127 = .ok (.iand, 1) := by decide +kernel
theorem dL_law_128 : decode cL_law 128 = .ok (.iload 8, 2) := by decide +kernel
theorem dL_law_130 : decode cL_law 130 = .ok (.irem, 1) := by decide +kernel
theorem dL_law_131 : decode cL_law 131 = .ok (.iadd, 1) := by decide +kernel
theorem dL_law_132 : decode cL_law 132 = .ok (.invokestatic 124, 3) := by decide +kernel
theorem dL_law_135 : decode cL_law 135 = .ok (.istore 7, 2) := by decide +kernel
theorem dL_law_137 : decode cL_law 137 = .ok (.goto 86, 3) := by decide +kernel
theorem dL_law_140 : decode cL_law 140 = .ok (.iload 4, 2) := by decide +kernel
theorem dL_law_142 : decode cL_law 142 = .ok (.bipush 10, 2) := by decide +kernel
theorem dL_law_144 : decode cL_law 144 = .ok (.if_icmp .ge 15, 3) := by decide +kernel
theorem dL_law_147 : decode cL_law 147 = .ok (.aload_n 1, 1) := by decide +kernel
theorem dL_law_148 : decode cL_law 148 = .ok (.aload_n 2, 1) := by decide +kernel
theorem dL_law_149 : decode cL_law 149 = .ok (.iload 6, 2) := by decide +kernel
theorem dL_law_151 : decode cL_law 151 = .ok (.invokestatic 128, 3) := by decide +kernel
theorem dL_law_154 : decode cL_law 154 = .ok (.istore 7, 2) := by decide +kernel
theorem dL_law_156 : decode cL_law 156 = .ok (.goto 67, 3) := by decide +kernel
theorem dL_law_159 : decode cL_law 159 = .ok (.iload 4, 2) := by decide +kernel
theorem dL_law_161 : decode cL_law 161 = .ok (.bipush 12, 2) := by decide +kernel
theorem dL_law_163 : decode cL_law 163 = .ok (.if_icmp .ge 29, 3) := by decide +kernel
theorem dL_law_166 : decode cL_law 166 = .ok (.aload_n 1, 1) := by decide +kernel
theorem dL_law_167 : decode cL_law 167 = .ok (.aload_n 2, 1) := by decide +kernel
theorem dL_law_168 : decode cL_law 168 = .ok (.iload 6, 2) := by decide +kernel
theorem dL_law_170 : decode cL_law 170 = .ok (.iconst 1, 1) := by decide +kernel
theorem dL_law_171 : decode cL_law 171 = .ok (.iload 5, 2) := by decide +kernel
theorem dL_law_173 : decode cL_law 173 = .ok (.bipush 8, 2) := by decide +kernel
theorem dL_law_175 : decode cL_law 175 = .ok (.ishr, 1) := by decide +kernel
theorem dL_law_176 : decode cL_law 176 = .ok (.sipush 255, 3) := by decide +kernel
theorem dL_law_179 : decode cL_law 179 = .ok (.iand, 1) := by decide +kernel
theorem dL_law_180 : decode cL_law 180 = .ok (.bipush 6, 2) := by decide +kernel
theorem dL_law_182 : decode cL_law 182 = .ok (.irem, 1) := by decide +kernel
theorem dL_law_183 : decode cL_law 183 = .ok (.iadd, 1) := by decide +kernel
theorem dL_law_184 : decode cL_law 184 = .ok (.invokestatic 132, 3) := by decide +kernel
theorem dL_law_187 : decode cL_law 187 = .ok (.istore 7, 2) := by decide +kernel
theorem dL_law_189 : decode cL_law 189 = .ok (.goto 34, 3) := by decide +kernel
theorem dL_law_192 : decode cL_law 192 = .ok (.aload_n 1, 1) := by decide +kernel
theorem dL_law_193 : decode cL_law 193 = .ok (.invokestatic 136, 3) := by decide +kernel
theorem dL_law_196 : decode cL_law 196 = .ok (.istore 8, 2) := by decide +kernel
theorem dL_law_198 : decode cL_law 198 = .ok (.iload 8, 2) := by decide +kernel
theorem dL_law_200 : decode cL_law 200 = .ok (.ifCond .ge 16, 3) := by decide +kernel
theorem dL_law_203 : decode cL_law 203 = .ok (.iload 8, 2) := by decide +kernel
theorem dL_law_205 : decode cL_law 205 = .ok (.iconst (-1), 1) := by decide +kernel
theorem dL_law_206 : decode cL_law 206 = .ok (.if_icmp .ne 14, 3) := by decide +kernel
theorem dL_law_209 : decode cL_law 209 = .ok (.aload_n 1, 1) := by decide +kernel
theorem dL_law_210 : decode cL_law 210 = .ok (.invokevirtual 62, 3) := by decide +kernel
theorem dL_law_213 : decode cL_law 213 = .ok (.ifCond .ne 7, 3) := by decide +kernel
theorem dL_law_216 : decode cL_law 216 = .ok (.iconst 1, 1) := by decide +kernel
theorem dL_law_217 : decode cL_law 217 = .ok (.goto 4, 3) := by decide +kernel
theorem dL_law_220 : decode cL_law 220 = .ok (.iconst 0, 1) := by decide +kernel
theorem dL_law_221 : decode cL_law 221 = .ok (.istore 7, 2) := by decide +kernel
theorem dL_law_223 : decode cL_law 223 = .ok (.iload 7, 2) := by decide +kernel
theorem dL_law_225 : decode cL_law 225 = .ok (.ifCond .eq 19, 3) := by decide +kernel
theorem dL_law_228 : decode cL_law 228 = .ok (.aload_n 1, 1) := by decide +kernel
theorem dL_law_229 : decode cL_law 229 = .ok (.aload_n 2, 1) := by decide +kernel
theorem dL_law_230 : decode cL_law 230 = .ok (.invokestatic 139, 3) := by decide +kernel
theorem dL_law_233 : decode cL_law 233 = .ok (.ifCond .eq 11, 3) := by decide +kernel
theorem dL_law_236 : decode cL_law 236 = .ok (.aload_n 1, 1) := by decide +kernel
theorem dL_law_237 : decode cL_law 237 = .ok (.aload_n 2, 1) := by decide +kernel
theorem dL_law_238 : decode cL_law 238 = .ok (.invokestatic 143, 3) := by decide +kernel
theorem dL_law_241 : decode cL_law 241 = .ok (.ifCond .ne 5, 3) := by decide +kernel
theorem dL_law_244 : decode cL_law 244 = .ok (.iconst 0, 1) := by decide +kernel
theorem dL_law_245 : decode cL_law 245 = .ok (.ireturn, 1) := by decide +kernel
theorem dL_law_246 : decode cL_law 246 = .ok (.iinc 3 2, 3) := by decide +kernel
theorem dL_law_249 : decode cL_law 249 = .ok (.goto (-234), 3) := by decide +kernel
theorem dL_law_252 : decode cL_law 252 = .ok (.iconst 1, 1) := by decide +kernel
theorem dL_law_253 : decode cL_law 253 = .ok (.ireturn, 1) := by decide +kernel
