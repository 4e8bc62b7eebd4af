theorem dX4_enter_0 : decode cX4_enter 0 = .ok (.aload_n 0, 1) := by decide +kernel
theorem dX4_enter_1 : decode cX4_enter 1 = .ok (.aload_n 0, 1) := by decide +kernel
theorem dX4_enter_2 : decode cX4_enter 2 = .ok (.getfield 7, 3) := by decide +kernel
theorem dX4_enter_5 : decode cX4_enter 5 = .ok (.ifCond .ne 7, 3) := by decide +kernel
theorem dX4_enter_8 : decode cX4_enter 8 = .ok (.iconst 1, 1) := by decide +kernel
theorem dX4_enter_9 : decode cX4_enter 9 = .ok (.goto 38, 3) := by decide +kernel
theorem dX4_enter_12 : decode cX4_enter 12 = .ok (.iload_n 1, 1) := by decide +kernel
theorem dX4_enter_13 : decode cX4_enter 13 = .ok (.invokestatic 66, 3) := by decide +kernel
theorem dX4_enter_16 : decode cX4_enter 16 = .ok (.ifCond .eq 13, 3) := by decide +kernel
theorem dX4_enter_19 : decode cX4_enter 19 = .ok (.iload_n 2, 1) := by decide +kernel
theorem dX4_enter_20 : decode cX4_enter 20 = .ok (.ifCond .lt 9, 3) := by decide +kernel
theorem dX4_enter_23 : decode cX4_enter 23 = .ok (.iload_n 2, 1) := by decide +kernel
theorem dX4_enter_24 : decode cX4_enter 24 = .ok (.bipush 48, 2) := by decide +kernel
theorem dX4_enter_26 : decode cX4_enter 26 = .ok (.if_icmp .le 7, 3) := by decide +kernel
theorem dX4_enter_29 : decode cX4_enter 29 = .ok (.iconst 2, 1) := by decide +kernel
theorem dX4_enter_30 : decode cX4_enter 30 = .ok (.goto 17, 3) := by decide +kernel
theorem dX4_enter_33 : decode cX4_enter 33 = .ok (.aload_n 0, 1) := by decide +kernel
theorem dX4_enter_34 : decode cX4_enter 34 = .ok (.iconst 1, 1) := by decide +kernel
theorem dX4_enter_35 : decode cX4_enter 35 = .ok (.invokevirtual 70, 3) := by decide +kernel
theorem dX4_enter_38 : decode cX4_enter 38 = .ok (.iconst 4, 1) := by decide +kernel
theorem dX4_enter_39 : decode cX4_enter 39 = .ok (.if_icmp .ne 7, 3) := by decide +kernel
theorem dX4_enter_42 : decode cX4_enter 42 = .ok (.iconst 1, 1) := by decide +kernel
theorem dX4_enter_43 : decode cX4_enter 43 = .ok (.goto 4, 3) := by decide +kernel
theorem dX4_enter_46 : decode cX4_enter 46 = .ok (.iconst 0, 1) := by decide +kernel
theorem dX4_enter_47 : decode cX4_enter 47 = .ok (.putfield 36, 3) := by decide +kernel
theorem dX4_enter_50 : decode cX4_enter 50 = .ok (.aload_n 0, 1) := by decide +kernel
theorem dX4_enter_51 : decode cX4_enter 51 = .ok (.getfield 36, 3) := by decide +kernel
theorem dX4_enter_54 : decode cX4_enter 54 = .ok (.ifCond .le 5, 3) := by decide +kernel
theorem dX4_enter_57 : decode cX4_enter 57 = .ok (.iconst 0, 1) := by decide +kernel
theorem dX4_enter_58 : decode cX4_enter 58 = .ok (.ireturn, 1) := by decide +kernel
theorem dX4_enter_59 : decode cX4_enter 59 = .ok (.aload_n 0, 1) := by decide +kernel
theorem dX4_enter_60 : decode cX4_enter 60 = .ok (.iconst 0, 1) := by decide +kernel
theorem dX4_enter_61 : decode cX4_enter 61 = .ok (.invokevirtual 73, 3) := by decide +kernel
theorem dX4_enter_64 : decode cX4_enter 64 = .ok (.iconst 2, 1) := by decide +kernel
theorem dX4_enter_65 : decode cX4_enter 65 = .ok (.idiv, 1) := by decide +kernel
theorem dX4_enter_66 : decode cX4_enter 66 = .ok (.istore_n 3, 1) := by decide +kernel
theorem dX4_enter_67 : decode cX4_enter 67 = .ok (.iload_n 2, 1) := by decide +kernel
theorem dX4_enter_68 : decode cX4_enter 68 = .ok (.ifCond .le 7, 3) := by decide +kernel
theorem dX4_enter_71 : decode cX4_enter 71 = .ok (.iload_n 2, 1) := by decide +kernel
theorem dX4_enter_72 : decode cX4_enter 72 = .ok (.goto 21, 3) := by decide +kernel
theorem dX4_enter_75 : decode cX4_enter 75 = .ok (.iload_n 3, 1) := by decide +kernel
theorem dX4_enter_76 : decode cX4_enter 76 = .ok (.aload_n 0, 1) := by decide +kernel
theorem dX4_enter_77 : decode cX4_enter 77 = .ok (.iconst 1, 1) := by decide +kernel
theorem dX4_enter_78 : decode cX4_enter 78 = .ok (.invokevirtual 73, 3) := by decide +kernel
theorem dX4_enter_81 : decode cX4_enter 81 = .ok (.if_icmp .le 7, 3) := by decide +kernel
theorem dX4_enter_84 : decode cX4_enter 84 = .ok (.iload_n 3, 1) := by decide +kernel
theorem dX4_enter_85 : decode cX4_enter 85 = .ok (.goto 8, 3) := by decide +kernel
theorem dX4_enter_88 : decode cX4_enter 88 = .ok (.aload_n 0, 1) := by decide +kernel
theorem dX4_enter_89 : decode cX4_enter 89 = .ok (.iconst 1, 1) := by decide +kernel
theorem dX4_enter_90 : decode cX4_enter 90 = .ok (.invokevirtual 73, 3) := by decide +kernel
theorem dX4_enter_93 : decode cX4_enter 93 = .ok (.istore 4, 2) := by decide +kernel
theorem dX4_enter_95 : decode cX4_enter 95 = .ok (.aload_n 0, 1) := by decide +kernel
theorem dX4_enter_96 : decode cX4_enter 96 = .ok (.iload 4, 2) := by decide +kernel
theorem dX4_enter_98 : decode cX4_enter 98 = .ok (.ifCond .eq 12, 3) := by decide +kernel
theorem dX4_enter_101 : decode cX4_enter 101 = .ok (.aload_n 0, 1) := by decide +kernel
theorem dX4_enter_102 : decode cX4_enter 102 = .ok (.iload 4, 2) := by decide +kernel
theorem dX4_enter_104 : decode cX4_enter 104 = .ok (.invokevirtual 77, 3) := by decide +kernel
theorem dX4_enter_107 : decode cX4_enter 107 = .ok (.ifCond .ne 7, 3) := by decide +kernel
theorem dX4_enter_110 : decode cX4_enter 110 = .ok (.iconst 3, 1) := by decide +kernel
theorem dX4_enter_111 : decode cX4_enter 111 = .ok (.goto 4, 3) := by decide +kernel
theorem dX4_enter_114 : decode cX4_enter 114 = .ok (.iconst 0, 1) := by decide +kernel
theorem dX4_enter_115 : decode cX4_enter 115 = .ok (.putfield 36, 3) := by decide +kernel
theorem dX4_enter_118 : decode cX4_enter 118 = .ok (.aload_n 0, 1) := by decide +kernel
theorem dX4_enter_119 : decode cX4_enter 119 = .ok (.getfield 36, 3) := by decide +kernel
theorem dX4_enter_122 : decode cX4_enter 122 = .ok (.ifCond .le 5, 3) := by decide +kernel
theorem dX4_enter_125 : decode cX4_enter 125 = .ok (.iconst 0, 1) := by decide +kernel
theorem dX4_enter_126 : decode cX4_enter 126 = .ok (.ireturn, 1) := by decide +kernel
theorem dX4_enter_127 : decode cX4_enter 127 = .ok (.iconst 1, 1) := by decide +kernel
theorem dX4_enter_128 : decode cX4_enter 128 = .ok (.istore 5, 2) := by decide +kernel
theorem dX4_enter_130 : decode cX4_enter 130 = .ok (.iload 5, 2) := by decide +kernel
theorem dX4_enter_132 : decode cX4_enter 132 = .ok (.bipush 17, 2) := by decide +kernel
theorem dX4_enter_134 : decode cX4_enter 134 = .ok (.if_icmp .ge 19, 3) := by decide +kernel
theorem dX4_enter_137 : decode cX4_enter 137 = .ok (.aload_n 0, 1) := by decide +kernel
theorem dX4_enter_138 : decode cX4_enter 138 = .ok (.getfield 27, 3) := by decide +kernel
theorem dX4_enter_141 : decode cX4_enter 141 = .ok (.iload 5, 2) := by decide +kernel
theorem dX4_enter_143 : decode cX4_enter 143 = .ok (.iaload, 1) := by decide +kernel
theorem dX4_enter_144 : decode cX4_enter 144 = .ok (.ifCond .eq 9, 3) := by decide +kernel
theorem dX4_enter_147 : decode cX4_enter 147 = .ok (.iinc 5 1, 3) := by decide +kernel
theorem dX4_enter_150 : decode cX4_enter 150 = .ok (.goto (-20), 3) := by decide +kernel
theorem dX4_enter_153 : decode cX4_enter 153 = .ok (.aload_n 0, 1) := by decide +kernel
theorem dX4_enter_154 : decode cX4_enter 154 = .ok (.invokevirtual 80, 3) := by decide +kernel
theorem dX4_enter_157 : decode cX4_enter 157 = .ok (.aload_n 0, 1) := by decide +kernel
theorem dX4_enter_158 : decode cX4_enter 158 = .ok (.getfield 63, 3) := by decide +kernel
theorem dX4_enter_161 : decode cX4_enter 161 = .ok (.istore 6, 2) := by decide +kernel
theorem dX4_enter_163 : decode cX4_enter 163 = .ok (.iload 6, 2) := by decide +kernel
theorem dX4_enter_165 : decode cX4_enter 165 = .ok (.aload_n 0, 1) := by decide +kernel
theorem dX4_enter_166 : decode cX4_enter 166 = .ok (.getfield 63, 3) := by decide +kernel
theorem dX4_enter_169 : decode cX4_enter 169 = .ok (.iload 4, 2) := by decide +kernel
theorem dX4_enter_171 : decode cX4_enter 171 = .ok (.iadd, 1) := by decide +kernel
theorem dX4_enter_172 : decode cX4_enter 172 = .ok (.if_icmp .ge 18, 3) := by decide +kernel
theorem dX4_enter_175 : decode cX4_enter 175 = .ok (.aload_n 0, 1) := by decide +kernel
theorem dX4_enter_176 : decode cX4_enter 176 = .ok (.getfield 24, 3) := by decide +kernel
theorem dX4_enter_179 : decode cX4_enter 179 = .ok (.iload 6, 2) := by decide +kernel
theorem dX4_enter_181 : decode cX4_enter 181 = .ok (.iload 5, 2) := by decide +kernel
theorem dX4_enter_183 : decode cX4_enter 183 = .ok (.iastore, 1) := by decide +kernel
theorem dX4_enter_184 : decode cX4_enter 184 = .ok (.iinc 6 1, 3) := by decide +kernel
theorem dX4_enter_187 : decode cX4_enter 187 = .ok (.goto (-24), 3) := by decide +kernel
theorem dX4_enter_190 : decode cX4_enter 190 = .ok (.aload_n 0, 1) := by decide +kernel
theorem dX4_enter_191 : decode cX4_enter 191 = .ok (.aload_n 0, 1) := by decide +kernel
theorem dX4_enter_192 : decode cX4_enter 192 = .ok (.invokevirtual 48, 3) := by decide +kernel
theorem dX4_enter_195 : decode cX4_enter 195 = .ok (.bipush 16, 2) := by decide +kernel
theorem dX4_enter_197 : decode cX4_enter 197 = .ok (.if_icmp .le 7, 3) := by decide +kernel
theorem dX4_enter_200 : decode cX4_enter 200 = .ok (.iconst 3, 1) := by decide +kernel
theorem dX4_enter_201 : decode cX4_enter 201 = .ok (.goto 4, 3) := by decide +kernel
theorem dX4_enter_204 : decode cX4_enter 204 = .ok (.iconst 0, 1) := by decide +kernel
theorem dX4_enter_205 : decode cX4_enter 205 = .ok (.putfield 36, 3) := by decide +kernel
theorem dX4_enter_208 : decode cX4_enter 208 = .ok (.aload_n 0, 1) := by decide +kernel
theorem dX4_enter_209 : decode cX4_enter 209 = .ok (.getfield 36, 3) := by decide +kernel
theorem dX4_enter_212 : decode cX4_enter 212 = .ok (.ifCond .le 5, 3) := by decide +kernel
theorem dX4_enter_215 : decode cX4_enter 215 = .ok (.iconst 0, 1) := by decide +kernel
theorem dX4_enter_216 : decode cX4_enter 216 = .ok (.ireturn, 1) := by decide +kernel
theorem dX4_enter_217 : decode cX4_enter 217 = .ok (.aload_n 0, 1) := by decide +kernel
theorem dX4_enter_218 : decode cX4_enter 218 = .ok (.invokevirtual 83, 3) := by decide +kernel
theorem dX4_enter_221 : decode cX4_enter 221 = .ok (.ifCond .ne 5, 3) := by decide +kernel
theorem dX4_enter_224 : decode cX4_enter 224 = .ok (.iconst (-1), 1) := by decide +kernel
theorem dX4_enter_225 : decode cX4_enter 225 = .ok (.ireturn, 1) := by decide +kernel
theorem dX4_enter_226 : decode cX4_enter 226 = .ok (.iconst 0, 1) := by decide +kernel
theorem dX4_enter_227 : decode cX4_enter 227 = .ok (.istore 6, 2) := by decide +kernel
theorem dX4_enter_229 : decode cX4_enter 229 = .ok (.aload_n 0, 1) := by decide +kernel
theorem dX4_enter_230 : decode cX4_enter 230 = .ok (.iload 6, 2) := by decide +kernel
theorem dX4_enter_232 : decode cX4_enter 232 = .ok (.invokevirtual 86, 3) := by decide +kernel
theorem dX4_enter_235 : decode cX4_enter 235 = .ok (.ifCond .le 9, 3) := by decide +kernel
theorem dX4_enter_238 : decode cX4_enter 238 = .ok (.iinc 6 1, 3) := by decide +kernel
theorem dX4_enter_241 : decode cX4_enter 241 = .ok (.goto (-12), 3) := by decide +kernel
theorem dX4_enter_244 : decode cX4_enter 244 = .ok (.aload_n 0, 1) := by decide +kernel
theorem dX4_enter_245 : decode cX4_enter 245 = .ok (.getfield 27, 3) := by decide +kernel
theorem dX4_enter_248 : decode cX4_enter 248 = .ok (.iload 5, 2) := by decide +kernel
theorem dX4_enter_250 : decode cX4_enter 250 = .ok (.iconst 1, 1) := by decide +kernel
theorem dX4_enter_251 : decode cX4_enter 251 = .ok (.iastore, 1) := by decide +kernel
theorem dX4_enter_252 : decode cX4_enter 252 = .ok (.aload_n 0, 1) := by decide +kernel
theorem dX4_enter_253 : decode cX4_enter 253 = .ok (.getfield 30, 3) := by decide +kernel
theorem dX4_enter_256 : decode cX4_enter 256 = .ok (.iload 5, 2) := by decide +kernel
theorem dX4_enter_258 : decode cX4_enter 258 = .ok (.iload_n 1, 1) := by decide +kernel
theorem dX4_enter_259 : decode cX4_enter 259 = .ok (.iastore, 1) := by decide +kernel
theorem dX4_enter_260 : decode cX4_enter 260 = .ok (.aload_n 0, 1) := by decide +kernel
theorem dX4_enter_261 : decode cX4_enter 261 = .ok (.getfield 33, 3) := by decide +kernel
theorem dX4_enter_264 : decode cX4_enter 264 = .ok (.iload 5, 2) := by decide +kernel
theorem dX4_enter_266 : decode cX4_enter 266 = .ok (.iload 6, 2) := by decide +kernel
theorem dX4_enter_268 : decode cX4_enter 268 = .ok (.iastore, 1) := by decide +kernel
theorem dX4_enter_269 : decode cX4_enter 269 = .ok (.iload 6, 2) := by decide +kernel
theorem dX4_enter_271 : decode cX4_enter 271 = .ok (.ireturn, 1) := by decide +kernel
set_option maxRecDepth 20000 in
theorem ggX4_put_X4_byHandle : GoodIn wsX4_put wsX4_byHandle := goodIn_r _ [8, 9, 10, 28, 29, 30, 31, 32, 33, 34, 35, 36, 37, 38, 39, 40, 41, 42, 43, 44, 45, 46, 47] (by decide +kernel) (by decide +kernel)
set_option maxRecDepth 20000 in
theorem gX4_put_X4_byHandle : GoodIn wsX4_put (wsV RX4 86 RX4 yX4_byHandle wsX4_byHandle) := goodIn_app (goodIn_of _ (by decide +kernel)) ggX4_put_X4_byHandle
set_option maxRecDepth 20000 in
theorem ggX4_put_X4_lengthOf : GoodIn wsX4_put wsX4_lengthOf := goodIn_r _ [14, 15, 28, 29, 30, 31, 32, 33, 34, 35, 36, 37, 38, 39, 40, 41, 42, 43, 44, 45, 46, 47] (by decide +kernel) (by decide +kernel)
set_option maxRecDepth 20000 in
theorem gX4_put_X4_lengthOf : GoodIn wsX4_put (wsV RX4 89 RX4 yX4_lengthOf wsX4_lengthOf) := goodIn_app (goodIn_of _ (by decide +kernel)) ggX4_put_X4_lengthOf
set_option maxRecDepth 20000 in
theorem ggX4_put_X4_write : GoodIn wsX4_put wsX4_write := goodIn_r _ [19, 20, 1, 21, 22, 23, 28, 29, 30, 31, 32, 33, 34, 35, 36, 37, 38, 39, 40, 41, 42, 43, 44, 45, 46, 47] (by decide +kernel) (by decide +kernel)
set_option maxRecDepth 20000 in
theorem gX4_put_X4_write : GoodIn wsX4_put (wsV RX4 52 RX4 yX4_write wsX4_write) := goodIn_app (goodIn_of _ (by decide +kernel)) ggX4_put_X4_write
set_option maxRecDepth 20000 in
theorem ggX4_put_X4_beginOf : GoodIn wsX4_put wsX4_beginOf := goodIn_r _ [27, 15, 28, 29, 30, 31, 32, 33, 34, 35, 36, 37, 38, 39, 40, 41, 42, 43, 44, 45, 46, 47] (by decide +kernel) (by decide +kernel)
set_option maxRecDepth 20000 in
theorem gX4_put_X4_beginOf : GoodIn wsX4_put (wsV RX4 92 RX4 yX4_beginOf wsX4_beginOf) := goodIn_app (goodIn_of _ (by decide +kernel)) ggX4_put_X4_beginOf
theorem dX4_put_0 : decode cX4_put 0 = .ok (.aload_n 0, 1) := by decide +kernel
theorem dX4_put_1 : decode cX4_put 1 = .ok (.getfield 7, 3) := by decide +kernel
theorem dX4_put_4 : decode cX4_put 4 = .ok (.ifCond .eq 11, 3) := by decide +kernel
theorem dX4_put_7 : decode cX4_put 7 = .ok (.aload_n 0, 1) := by decide +kernel
theorem dX4_put_8 : decode cX4_put 8 = .ok (.iload_n 1, 1) := by decide +kernel
theorem dX4_put_9 : decode cX4_put 9 = .ok (.invokevirtual 86, 3) := by decide +kernel
theorem dX4_put_12 : decode cX4_put 12 = .ok (.goto 4, 3) := by decide +kernel
theorem dX4_put_15 : decode cX4_put 15 = .ok (.iconst 0, 1) := by decide +kernel
theorem dX4_put_16 : decode cX4_put 16 = .ok (.istore 4, 2) := by decide +kernel
theorem dX4_put_18 : decode cX4_put 18 = .ok (.aload_n 0, 1) := by decide +kernel
theorem dX4_put_19 : decode cX4_put 19 = .ok (.aload_n 0, 1) := by decide +kernel
theorem dX4_put_20 : decode cX4_put 20 = .ok (.getfield 7, 3) := by decide +kernel
theorem dX4_put_23 : decode cX4_put 23 = .ok (.ifCond .ne 7, 3) := by decide +kernel
theorem dX4_put_26 : decode cX4_put 26 = .ok (.iconst 1, 1) := by decide +kernel
theorem dX4_put_27 : decode cX4_put 27 = .ok (.goto 31, 3) := by decide +kernel
theorem dX4_put_30 : decode cX4_put 30 = .ok (.iload 4, 2) := by decide +kernel
theorem dX4_put_32 : decode cX4_put 32 = .ok (.ifCond .ne 7, 3) := by decide +kernel
theorem dX4_put_35 : decode cX4_put 35 = .ok (.iconst 2, 1) := by decide +kernel
theorem dX4_put_36 : decode cX4_put 36 = .ok (.goto 22, 3) := by decide +kernel
theorem dX4_put_39 : decode cX4_put 39 = .ok (.iload_n 2, 1) := by decide +kernel
theorem dX4_put_40 : decode cX4_put 40 = .ok (.ifCond .lt 13, 3) := by decide +kernel
theorem dX4_put_43 : decode cX4_put 43 = .ok (.iload_n 2, 1) := by decide +kernel
theorem dX4_put_44 : decode cX4_put 44 = .ok (.aload_n 0, 1) := by decide +kernel
theorem dX4_put_45 : decode cX4_put 45 = .ok (.iload 4, 2) := by decide +kernel
theorem dX4_put_47 : decode cX4_put 47 = .ok (.invokevirtual 89, 3) := by decide +kernel
theorem dX4_put_50 : decode cX4_put 50 = .ok (.if_icmp .lt 7, 3) := by decide +kernel
theorem dX4_put_53 : decode cX4_put 53 = .ok (.iconst 3, 1) := by decide +kernel
theorem dX4_put_54 : decode cX4_put 54 = .ok (.goto 4, 3) := by decide +kernel
theorem dX4_put_57 : decode cX4_put 57 = .ok (.iconst 0, 1) := by decide +kernel
theorem dX4_put_58 : decode cX4_put 58 = .ok (.putfield 36, 3) := by decide +kernel
theorem dX4_put_61 : decode cX4_put 61 = .ok (.aload_n 0, 1) := by decide +kernel
theorem dX4_put_62 : decode cX4_put 62 = .ok (.getfield 36, 3) := by decide +kernel
theorem dX4_put_65 : decode cX4_put 65 = .ok (.ifCond .le 5, 3) := by decide +kernel
theorem dX4_put_68 : decode cX4_put 68 = .ok (.iconst 0, 1) := by decide +kernel
theorem dX4_put_69 : decode cX4_put 69 = .ok (.ireturn, 1) := by decide +kernel
theorem dX4_put_70 : decode cX4_put 70 = .ok (.aload_n 0, 1) := by decide +kernel
theorem dX4_put_71 : decode cX4_put 71 = .ok (.invokevirtual 52, 3) := by decide +kernel
theorem dX4_put_74 : decode cX4_put 74 = .ok (.ifCond .ne 5, 3) := by decide +kernel
theorem dX4_put_77 : decode cX4_put 77 = .ok (.iconst (-1), 1) := by decide +kernel
theorem dX4_put_78 : decode cX4_put 78 = .ok (.ireturn, 1) := by decide +kernel
theorem dX4_put_79 : decode cX4_put 79 = .ok (.aload_n 0, 1) := by decide +kernel
theorem dX4_put_80 : decode cX4_put 80 = .ok (.getfield 17, 3) := by decide +kernel
theorem dX4_put_83 : decode cX4_put 83 = .ok (.aload_n 0, 1) := by decide +kernel
theorem dX4_put_84 : decode cX4_put 84 = .ok (.iload 4, 2) := by decide +kernel
theorem dX4_put_86 : decode cX4_put 86 = .ok (.invokevirtual 92, 3) := by decide +kernel
theorem dX4_put_89 : decode cX4_put 89 = .ok (.iload_n 2, 1) := by decide +kernel
theorem dX4_put_90 : decode cX4_put 90 = .ok (.iadd, 1) := by decide +kernel
theorem dX4_put_91 : decode cX4_put 91 = .ok (.iload_n 3, 1) := by decide +kernel
theorem dX4_put_92 : decode cX4_put 92 = .ok (.iastore, 1) := by decide +kernel
theorem dX4_put_93 : decode cX4_put 93 = .ok (.iconst 0, 1) := by decide +kernel
theorem dX4_put_94 : decode cX4_put 94 = .ok (.ireturn, 1) := by decide +kernel
set_option maxRecDepth 20000 in
theorem ggX4_close_X4_byHandle : GoodIn wsX4_close wsX4_byHandle := goodIn_r _ [9, 4, 10, 45, 46, 47, 48, 49, 50, 51, 52, 53, 54, 55, 56, 57, 58, 59, 60, 61, 62, 63, 64] (by decide +kernel) (by decide +kernel)
set_option maxRecDepth 20000 in
theorem gX4_close_X4_byHandle : GoodIn wsX4_close (wsV RX4 86 RX4 yX4_byHandle wsX4_byHandle) := goodIn_app (goodIn_of _ (by decide +kernel)) ggX4_close_X4_byHandle
set_option maxRecDepth 20000 in
theorem ggX4_close_X4_lengthOf : GoodIn wsX4_close wsX4_lengthOf := goodIn_r _ [14, 15, 45, 46, 47, 48, 49, 50, 51, 52, 53, 54, 55, 56, 57, 58, 59, 60, 61, 62, 63, 64] (by decide +kernel) (by decide +kernel)
set_option maxRecDepth 20000 in
theorem gX4_close_X4_lengthOf : GoodIn wsX4_close (wsV RX4 89 RX4 yX4_lengthOf wsX4_lengthOf) := goodIn_app (goodIn_of _ (by decide +kernel)) ggX4_close_X4_lengthOf
set_option maxRecDepth 20000 in
theorem ggX4_close_X4_permanent : GoodIn wsX4_close wsX4_permanent := goodIn_r _ [19, 4, 3, 45, 46, 47, 48, 49, 50, 51, 52, 53, 54, 55, 56, 57, 58, 59, 60, 61, 62, 63, 64] (by decide +kernel) (by decide +kernel)
set_option maxRecDepth 20000 in
theorem gX4_close_X4_permanent : GoodIn wsX4_close (wsV RX4 95 RX4 yX4_permanent wsX4_permanent) := goodIn_app (goodIn_of _ (by decide +kernel)) ggX4_close_X4_permanent
set_option maxRecDepth 20000 in
theorem ggX4_close_X4_lay : GoodIn wsX4_close wsX4_lay := goodIn_r _ [23, 24, 15, 45, 46, 47, 48, 49, 50, 51, 52, 53, 54, 55, 56, 57, 58, 59, 60, 61, 62, 63, 64] (by decide +kernel) (by decide +kernel)
set_option maxRecDepth 20000 in
theorem gX4_close_X4_lay : GoodIn wsX4_close (wsV RX4 80 RX4 yX4_lay wsX4_lay) := goodIn_app (goodIn_of _ (by decide +kernel)) ggX4_close_X4_lay
set_option maxRecDepth 20000 in
theorem ggX4_close_X4_giveUp : GoodIn wsX4_close wsX4_giveUp := goodIn_r _ [28, 15, 24, 45, 46, 47, 48, 49, 50, 51, 52, 53, 54, 55, 56, 57, 58, 59, 60, 61, 62, 63, 64] (by decide +kernel) (by decide +kernel)
set_option maxRecDepth 20000 in
theorem gX4_close_X4_giveUp : GoodIn wsX4_close (wsV RX4 98 RX4 yX4_giveUp wsX4_giveUp) := goodIn_app (goodIn_of _ (by decide +kernel)) ggX4_close_X4_giveUp
set_option maxRecDepth 20000 in
theorem ggX4_close_X4_runs : GoodIn wsX4_close wsX4_runs := goodIn_r _ [32, 24, 45, 46, 47, 48, 49, 50, 51, 52, 53, 54, 55, 56, 57, 58, 59, 60, 61, 62, 63, 64] (by decide +kernel) (by decide +kernel)
set_option maxRecDepth 20000 in
theorem gX4_close_X4_runs : GoodIn wsX4_close (wsV RX4 48 RX4 yX4_runs wsX4_runs) := goodIn_app (goodIn_of _ (by decide +kernel)) ggX4_close_X4_runs
set_option maxRecDepth 20000 in
theorem ggX4_close_X4_change : GoodIn wsX4_close wsX4_change := goodIn_r _ [36, 15, 24, 29, 30, 31, 8, 32, 37, 38, 39, 40, 41, 1, 42, 43, 44, 45, 46, 47, 48, 49, 50, 51, 52, 53, 54, 55, 56, 57, 58, 59, 60, 61, 62, 63, 64] (by decide +kernel) (by decide +kernel)
set_option maxRecDepth 20000 in
theorem gX4_close_X4_change : GoodIn wsX4_close (wsV RX4 83 RX4 yX4_change wsX4_change) := goodIn_app (goodIn_of _ (by decide +kernel)) ggX4_close_X4_change
theorem dX4_close_0 : decode cX4_close 0 = .ok (.aload_n 0, 1) := by decide +kernel
theorem dX4_close_1 : decode cX4_close 1 = .ok (.getfield 7, 3) := by decide +kernel
theorem dX4_close_4 : decode cX4_close 4 = .ok (.ifCond .eq 11, 3) := by decide +kernel
theorem dX4_close_7 : decode cX4_close 7 = .ok (.aload_n 0, 1) := by decide +kernel
theorem dX4_close_8 : decode cX4_close 8 = .ok (.iload_n 1, 1) := by decide +kernel
theorem dX4_close_9 : decode cX4_close 9 = .ok (.invokevirtual 86, 3) := by decide +kernel
theorem dX4_close_12 : decode cX4_close 12 = .ok (.goto 4, 3) := by decide +kernel
theorem dX4_close_15 : decode cX4_close 15 = .ok (.iconst 0, 1) := by decide +kernel
theorem dX4_close_16 : decode cX4_close 16 = .ok (.istore_n 3, 1) := by decide +kernel
theorem dX4_close_17 : decode cX4_close 17 = .ok (.aload_n 0, 1) := by decide +kernel
theorem dX4_close_18 : decode cX4_close 18 = .ok (.aload_n 0, 1) := by decide +kernel
theorem dX4_close_19 : decode cX4_close 19 = .ok (.getfield 7, 3) := by decide +kernel
theorem dX4_close_22 : decode cX4_close 22 = .ok (.ifCond .ne 7, 3) := by decide +kernel
theorem dX4_close_25 : decode cX4_close 25 = .ok (.iconst 1, 1) := by decide +kernel
theorem dX4_close_26 : decode cX4_close 26 = .ok (.goto 30, 3) := by decide +kernel
theorem dX4_close_29 : decode cX4_close 29 = .ok (.iload_n 3, 1) := by decide +kernel
theorem dX4_close_30 : decode cX4_close 30 = .ok (.ifCond .ne 7, 3) := by decide +kernel
theorem dX4_close_33 : decode cX4_close 33 = .ok (.iconst 2, 1) := by decide +kernel
theorem dX4_close_34 : decode cX4_close 34 = .ok (.goto 22, 3) := by decide +kernel
theorem dX4_close_37 : decode cX4_close 37 = .ok (.iload_n 2, 1) := by decide +kernel
theorem dX4_close_38 : decode cX4_close 38 = .ok (.iconst 1, 1) := by decide +kernel
theorem dX4_close_39 : decode cX4_close 39 = .ok (.if_icmp .lt 12, 3) := by decide +kernel
theorem dX4_close_42 : decode cX4_close 42 = .ok (.iload_n 2, 1) := by decide +kernel
theorem dX4_close_43 : decode cX4_close 43 = .ok (.aload_n 0, 1) := by decide +kernel
theorem dX4_close_44 : decode cX4_close 44 = .ok (.iload_n 3, 1) := by decide +kernel
theorem dX4_close_45 : decode cX4_close 45 = .ok (.invokevirtual 89, 3) := by decide +kernel
theorem dX4_close_48 : decode cX4_close 48 = .ok (.if_icmp .le 7, 3) := by decide +kernel
theorem dX4_close_51 : decode cX4_close 51 = .ok (.iconst 3, 1) := by decide +kernel
theorem dX4_close_52 : decode cX4_close 52 = .ok (.goto 4, 3) := by decide +kernel
theorem dX4_close_55 : decode cX4_close 55 = .ok (.iconst 0, 1) := by decide +kernel
theorem dX4_close_56 : decode cX4_close 56 = .ok (.putfield 36, 3) := by decide +kernel
theorem dX4_close_59 : decode cX4_close 59 = .ok (.aload_n 0, 1) := by decide +kernel
theorem dX4_close_60 : decode cX4_close 60 = .ok (.getfield 36, 3) := by decide +kernel
theorem dX4_close_63 : decode cX4_close 63 = .ok (.ifCond .le 5, 3) := by decide +kernel
theorem dX4_close_66 : decode cX4_close 66 = .ok (.iconst 0, 1) := by decide +kernel
theorem dX4_close_67 : decode cX4_close 67 = .ok (.ireturn, 1) := by decide +kernel
theorem dX4_close_68 : decode cX4_close 68 = .ok (.aload_n 0, 1) := by decide +kernel
theorem dX4_close_69 : decode cX4_close 69 = .ok (.aload_n 0, 1) := by decide +kernel
theorem dX4_close_70 : decode cX4_close 70 = .ok (.getfield 30, 3) := by decide +kernel
theorem dX4_close_73 : decode cX4_close 73 = .ok (.iload_n 3, 1) := by decide +kernel
theorem dX4_close_74 : decode cX4_close 74 = .ok (.iaload, 1) := by decide +kernel
theorem dX4_close_75 : decode cX4_close 75 = .ok (.invokevirtual 95, 3) := by decide +kernel
theorem dX4_close_78 : decode cX4_close 78 = .ok (.istore 4, 2) := by decide +kernel
theorem dX4_close_80 : decode cX4_close 80 = .ok (.aload_n 0, 1) := by decide +kernel
theorem dX4_close_81 : decode cX4_close 81 = .ok (.invokevirtual 80, 3) := by decide +kernel
theorem dX4_close_84 : decode cX4_close 84 = .ok (.aload_n 0, 1) := by decide +kernel
theorem dX4_close_85 : decode cX4_close 85 = .ok (.iload_n 3, 1) := by decide +kernel
theorem dX4_close_86 : decode cX4_close 86 = .ok (.iload_n 2, 1) := by decide +kernel
theorem dX4_close_87 : decode cX4_close 87 = .ok (.invokevirtual 98, 3) := by decide +kernel
theorem dX4_close_90 : decode cX4_close 90 = .ok (.aload_n 0, 1) := by decide +kernel
theorem dX4_close_91 : decode cX4_close 91 = .ok (.iload_n 3, 1) := by decide +kernel
theorem dX4_close_92 : decode cX4_close 92 = .ok (.invokevirtual 89, 3) := by decide +kernel
theorem dX4_close_95 : decode cX4_close 95 = .ok (.iload_n 2, 1) := by decide +kernel
theorem dX4_close_96 : decode cX4_close 96 = .ok (.isub, 1) := by decide +kernel
theorem dX4_close_97 : decode cX4_close 97 = .ok (.istore 5, 2) := by decide +kernel
theorem dX4_close_99 : decode cX4_close 99 = .ok (.iload 4, 2) := by decide +kernel
theorem dX4_close_101 : decode cX4_close 101 = .ok (.ifCond .le 21, 3) := by decide +kernel
theorem dX4_close_104 : decode cX4_close 104 = .ok (.aload_n 0, 1) := by decide +kernel
theorem dX4_close_105 : decode cX4_close 105 = .ok (.iload 4, 2) := by decide +kernel
theorem dX4_close_107 : decode cX4_close 107 = .ok (.iconst 0, 1) := by decide +kernel
theorem dX4_close_108 : decode cX4_close 108 = .ok (.invokevirtual 98, 3) := by decide +kernel
theorem dX4_close_111 : decode cX4_close 111 = .ok (.iload 5, 2) := by decide +kernel
theorem dX4_close_113 : decode cX4_close 113 = .ok (.aload_n 0, 1) := by decide +kernel
theorem dX4_close_114 : decode cX4_close 114 = .ok (.iload 4, 2) := by decide +kernel
theorem dX4_close_116 : decode cX4_close 116 = .ok (.invokevirtual 89, 3) := by decide +kernel
theorem dX4_close_119 : decode cX4_close 119 = .ok (.iadd, 1) := by decide +kernel
theorem dX4_close_120 : decode cX4_close 120 = .ok (.istore 5, 2) := by decide +kernel
theorem dX4_close_122 : decode cX4_close 122 = .ok (.aload_n 0, 1) := by decide +kernel
theorem dX4_close_123 : decode cX4_close 123 = .ok (.aload_n 0, 1) := by decide +kernel
theorem dX4_close_124 : decode cX4_close 124 = .ok (.invokevirtual 48, 3) := by decide +kernel
theorem dX4_close_127 : decode cX4_close 127 = .ok (.bipush 16, 2) := by decide +kernel
theorem dX4_close_129 : decode cX4_close 129 = .ok (.if_icmp .le 7, 3) := by decide +kernel
theorem dX4_close_132 : decode cX4_close 132 = .ok (.iconst 4, 1) := by decide +kernel
theorem dX4_close_133 : decode cX4_close 133 = .ok (.goto 4, 3) := by decide +kernel
theorem dX4_close_136 : decode cX4_close 136 = .ok (.iconst 0, 1) := by decide +kernel
theorem dX4_close_137 : decode cX4_close 137 = .ok (.putfield 36, 3) := by decide +kernel
theorem dX4_close_140 : decode cX4_close 140 = .ok (.aload_n 0, 1) := by decide +kernel
theorem dX4_close_141 : decode cX4_close 141 = .ok (.getfield 36, 3) := by decide +kernel
theorem dX4_close_144 : decode cX4_close 144 = .ok (.ifCond .le 5, 3) := by decide +kernel
theorem dX4_close_147 : decode cX4_close 147 = .ok (.iconst 0, 1) := by decide +kernel
theorem dX4_close_148 : decode cX4_close 148 = .ok (.ireturn, 1) := by decide +kernel
theorem dX4_close_149 : decode cX4_close 149 = .ok (.aload_n 0, 1) := by decide +kernel
theorem dX4_close_150 : decode cX4_close 150 = .ok (.invokevirtual 83, 3) := by decide +kernel
theorem dX4_close_153 : decode cX4_close 153 = .ok (.ifCond .ne 5, 3) := by decide +kernel
theorem dX4_close_156 : decode cX4_close 156 = .ok (.iconst (-1), 1) := by decide +kernel
theorem dX4_close_157 : decode cX4_close 157 = .ok (.ireturn, 1) := by decide +kernel
theorem dX4_close_158 : decode cX4_close 158 = .ok (.iload 4, 2) := by decide +kernel
theorem dX4_close_160 : decode cX4_close 160 = .ok (.ifCond .le 11, 3) := by decide +kernel
theorem dX4_close_163 : decode cX4_close 163 = .ok (.aload_n 0, 1) := by decide +kernel
theorem dX4_close_164 : decode cX4_close 164 = .ok (.getfield 27, 3) := by decide +kernel
theorem dX4_close_167 : decode cX4_close 167 = .ok (.iload 4, 2) := by decide +kernel
theorem dX4_close_169 : decode cX4_close 169 = .ok (.iconst 0, 1) := by decide +kernel
theorem dX4_close_170 : decode cX4_close 170 = .ok (.iastore, 1) := by decide +kernel
theorem dX4_close_171 : decode cX4_close 171 = .ok (.aload_n 0, 1) := by decide +kernel
theorem dX4_close_172 : decode cX4_close 172 = .ok (.getfield 27, 3) := by decide +kernel
theorem dX4_close_175 : decode cX4_close 175 = .ok (.iload_n 3, 1) := by decide +kernel
theorem dX4_close_176 : decode cX4_close 176 = .ok (.iconst 2, 1) := by decide +kernel
theorem dX4_close_177 : decode cX4_close 177 = .ok (.iastore, 1) := by decide +kernel
theorem dX4_close_178 : decode cX4_close 178 = .ok (.iload 5, 2) := by decide +kernel
theorem dX4_close_180 : decode cX4_close 180 = .ok (.ireturn, 1) := by decide +kernel
set_option maxRecDepth 20000 in
theorem ggX4_vanish_X4_lengthOf : GoodIn wsX4_vanish wsX4_lengthOf := goodIn_r _ [6, 7, 34, 35, 36, 37, 38, 39, 40, 41, 42, 43, 44, 45, 46, 47, 48, 49, 50, 51, 52, 53] (by decide +kernel) (by decide +kernel)
set_option maxRecDepth 20000 in
theorem gX4_vanish_X4_lengthOf : GoodIn wsX4_vanish (wsV RX4 89 RX4 yX4_lengthOf wsX4_lengthOf) := goodIn_app (goodIn_of _ (by decide +kernel)) ggX4_vanish_X4_lengthOf
set_option maxRecDepth 20000 in
theorem ggX4_vanish_X4_lay : GoodIn wsX4_vanish wsX4_lay := goodIn_r _ [11, 12, 7, 34, 35, 36, 37, 38, 39, 40, 41, 42, 43, 44, 45, 46, 47, 48, 49, 50, 51, 52, 53] (by decide +kernel) (by decide +kernel)
set_option maxRecDepth 20000 in
theorem gX4_vanish_X4_lay : GoodIn wsX4_vanish (wsV RX4 80 RX4 yX4_lay wsX4_lay) := goodIn_app (goodIn_of _ (by decide +kernel)) ggX4_vanish_X4_lay
set_option maxRecDepth 20000 in
theorem ggX4_vanish_X4_giveUp : GoodIn wsX4_vanish wsX4_giveUp := goodIn_r _ [16, 7, 12, 34, 35, 36, 37, 38, 39, 40, 41, 42, 43, 44, 45, 46, 47, 48, 49, 50, 51, 52, 53] (by decide +kernel) (by decide +kernel)
set_option maxRecDepth 20000 in
theorem gX4_vanish_X4_giveUp : GoodIn wsX4_vanish (wsV RX4 98 RX4 yX4_giveUp wsX4_giveUp) := goodIn_app (goodIn_of _ (by decide +kernel)) ggX4_vanish_X4_giveUp
set_option maxRecDepth 20000 in
theorem ggX4_vanish_X4_change : GoodIn wsX4_vanish wsX4_change := goodIn_r _ [20, 7, 12, 21, 22, 23, 5, 24, 25, 26, 27, 28, 29, 30, 31, 32, 33, 34, 35, 36, 37, 38, 39, 40, 41, 42, 43, 44, 45, 46, 47, 48, 49, 50, 51, 52, 53] (by decide +kernel) (by decide +kernel)
set_option maxRecDepth 20000 in
theorem gX4_vanish_X4_change : GoodIn wsX4_vanish (wsV RX4 83 RX4 yX4_change wsX4_change) := goodIn_app (goodIn_of _ (by decide +kernel)) ggX4_vanish_X4_change
theorem dX4_vanish_0 : decode cX4_vanish 0 = .ok (.aload_n 0, 1) := by decide +kernel
theorem dX4_vanish_1 : decode cX4_vanish 1 = .ok (.iload_n 1, 1) := by decide +kernel
theorem dX4_vanish_2 : decode cX4_vanish 2 = .ok (.invokevirtual 89, 3) := by decide +kernel
theorem dX4_vanish_5 : decode cX4_vanish 5 = .ok (.istore_n 2, 1) := by decide +kernel
theorem dX4_vanish_6 : decode cX4_vanish 6 = .ok (.aload_n 0, 1) := by decide +kernel
theorem dX4_vanish_7 : decode cX4_vanish 7 = .ok (.invokevirtual 80, 3) := by decide +kernel
theorem dX4_vanish_10 : decode cX4_vanish 10 = .ok (.aload_n 0, 1) := by decide +kernel
theorem dX4_vanish_11 : decode cX4_vanish 11 = .ok (.iload_n 1, 1) := by decide +kernel
theorem dX4_vanish_12 : decode cX4_vanish 12 = .ok (.iconst 0, 1) := by decide +kernel
theorem dX4_vanish_13 : decode cX4_vanish 13 = .ok (.invokevirtual 98, 3) := by decide +kernel
theorem dX4_vanish_16 : decode cX4_vanish 16 = .ok (.aload_n 0, 1) := by decide +kernel
theorem dX4_vanish_17 : decode cX4_vanish 17 = .ok (.invokevirtual 83, 3) := by decide +kernel
theorem dX4_vanish_20 : decode cX4_vanish 20 = .ok (.ifCond .ne 5, 3) := by decide +kernel
theorem dX4_vanish_23 : decode cX4_vanish 23 = .ok (.iconst (-1), 1) := by decide +kernel
theorem dX4_vanish_24 : decode cX4_vanish 24 = .ok (.ireturn, 1) := by decide +kernel
theorem dX4_vanish_25 : decode cX4_vanish 25 = .ok (.aload_n 0, 1) := by decide +kernel
theorem dX4_vanish_26 : decode cX4_vanish 26 = .ok (.getfield 27, 3) := by decide +kernel
theorem dX4_vanish_29 : decode cX4_vanish 29 = .ok (.iload_n 1, 1) := by decide +kernel
theorem dX4_vanish_30 : decode cX4_vanish 30 = .ok (.iconst 0, 1) := by decide +kernel
theorem dX4_vanish_31 : decode cX4_vanish 31 = .ok (.iastore, 1) := by decide +kernel
theorem dX4_vanish_32 : decode cX4_vanish 32 = .ok (.iload_n 2, 1) := by decide +kernel
theorem dX4_vanish_33 : decode cX4_vanish 33 = .ok (.ireturn, 1) := by decide +kernel
set_option maxRecDepth 20000 in
theorem ggX4_purge_X4_byHandle : GoodIn wsX4_purge wsX4_byHandle := goodIn_r _ [7, 8, 9, 44, 45, 46, 47, 48, 49, 50, 51, 52, 53, 54, 55, 56, 57, 58, 59, 60, 61, 62, 63] (by decide +kernel) (by decide +kernel)
set_option maxRecDepth 20000 in
theorem gX4_purge_X4_byHandle : GoodIn wsX4_purge (wsV RX4 86 RX4 yX4_byHandle wsX4_byHandle) := goodIn_app (goodIn_of _ (by decide +kernel)) ggX4_purge_X4_byHandle
set_option maxRecDepth 20000 in
theorem ggX4_purge_X4_vanish : GoodIn wsX4_purge wsX4_vanish := goodIn_r _ [13, 8, 14, 15, 16, 6, 17, 18, 19, 20, 21, 22, 23, 24, 25, 26, 27, 28, 29, 30, 31, 32, 33, 34, 35, 36, 37, 38, 39, 40, 1, 41, 42, 43, 44, 45, 46, 47, 48, 49, 50, 51, 52, 53, 54, 55, 56, 57, 58, 59, 60, 61, 62, 63] (by decide +kernel) (by decide +kernel)
set_option maxRecDepth 20000 in
theorem gX4_purge_X4_vanish : GoodIn wsX4_purge (wsV RX4 102 RX4 yX4_vanish wsX4_vanish) := goodIn_app (goodIn_of _ (by decide +kernel)) ggX4_purge_X4_vanish
theorem dX4_purge_0 : decode cX4_purge 0 = .ok (.aload_n 0, 1) := by decide +kernel
theorem dX4_purge_1 : decode cX4_purge 1 = .ok (.getfield 7, 3) := by decide +kernel
theorem dX4_purge_4 : decode cX4_purge 4 = .ok (.ifCond .eq 11, 3) := by decide +kernel
theorem dX4_purge_7 : decode cX4_purge 7 = .ok (.aload_n 0, 1) := by decide +kernel
theorem dX4_purge_8 : decode cX4_purge 8 = .ok (.iload_n 1, 1) := by decide +kernel
theorem dX4_purge_9 : decode cX4_purge 9 = .ok (.invokevirtual 86, 3) := by decide +kernel
theorem dX4_purge_12 : decode cX4_purge 12 = .ok (.goto 4, 3) := by decide +kernel
theorem dX4_purge_15 : decode cX4_purge 15 = .ok (.iconst 0, 1) := by decide +kernel
theorem dX4_purge_16 : decode cX4_purge 16 = .ok (.istore_n 2, 1) := by decide +kernel
theorem dX4_purge_17 : decode cX4_purge 17 = .ok (.aload_n 0, 1) := by decide +kernel
theorem dX4_purge_18 : decode cX4_purge 18 = .ok (.aload_n 0, 1) := by decide +kernel
theorem dX4_purge_19 : decode cX4_purge 19 = .ok (.getfield 7, 3) := by decide +kernel
theorem dX4_purge_22 : decode cX4_purge 22 = .ok (.ifCond .ne 7, 3) := by decide +kernel
theorem dX4_purge_25 : decode cX4_purge 25 = .ok (.iconst 1, 1) := by decide +kernel
theorem dX4_purge_26 : decode cX4_purge 26 = .ok (.goto 12, 3) := by decide +kernel
theorem dX4_purge_29 : decode cX4_purge 29 = .ok (.iload_n 2, 1) := by decide +kernel
theorem dX4_purge_30 : decode cX4_purge 30 = .ok (.ifCond .ne 7, 3) := by decide +kernel
theorem dX4_purge_33 : decode cX4_purge 33 = .ok (.iconst 2, 1) := by decide +kernel
theorem dX4_purge_34 : decode cX4_purge 34 = .ok (.goto 4, 3) := by decide +kernel
theorem dX4_purge_37 : decode cX4_purge 37 = .ok (.iconst 0, 1) := by decide +kernel
theorem dX4_purge_38 : decode cX4_purge 38 = .ok (.putfield 36, 3) := by decide +kernel
theorem dX4_purge_41 : decode cX4_purge 41 = .ok (.aload_n 0, 1) := by decide +kernel
theorem dX4_purge_42 : decode cX4_purge 42 = .ok (.getfield 36, 3) := by decide +kernel
theorem dX4_purge_45 : decode cX4_purge 45 = .ok (.ifCond .le 7, 3) := by decide +kernel
theorem dX4_purge_48 : decode cX4_purge 48 = .ok (.iconst 0, 1) := by decide +kernel
theorem dX4_purge_49 : decode cX4_purge 49 = .ok (.goto 8, 3) := by decide +kernel
theorem dX4_purge_52 : decode cX4_purge 52 = .ok (.aload_n 0, 1) := by decide +kernel
theorem dX4_purge_53 : decode cX4_purge 53 = .ok (.iload_n 2, 1) := by decide +kernel
theorem dX4_purge_54 : decode cX4_purge 54 = .ok (.invokevirtual 102, 3) := by decide +kernel
theorem dX4_purge_57 : decode cX4_purge 57 = .ok (.ireturn, 1) := by decide +kernel
set_option maxRecDepth 20000 in
theorem ggX4_delete_X4_permanent : GoodIn wsX4_delete wsX4_permanent := goodIn_r _ [7, 8, 9, 44, 45, 46, 47, 48, 49, 50, 51, 52, 53, 54, 55, 56, 57, 58, 59, 60, 61, 62, 63] (by decide +kernel) (by decide +kernel)
set_option maxRecDepth 20000 in
theorem gX4_delete_X4_permanent : GoodIn wsX4_delete (wsV RX4 95 RX4 yX4_permanent wsX4_permanent) := goodIn_app (goodIn_of _ (by decide +kernel)) ggX4_delete_X4_permanent
set_option maxRecDepth 20000 in
theorem ggX4_delete_X4_vanish : GoodIn wsX4_delete wsX4_vanish := goodIn_r _ [13, 8, 14, 15, 16, 6, 17, 18, 19, 20, 21, 22, 23, 24, 25, 26, 27, 28, 29, 30, 31, 32, 33, 34, 35, 36, 37, 38, 39, 40, 1, 41, 42, 43, 44, 45, 46, 47, 48, 49, 50, 51, 52, 53, 54, 55, 56, 57, 58, 59, 60, 61, 62, 63] (by decide +kernel) (by decide +kernel)
set_option maxRecDepth 20000 in
theorem gX4_delete_X4_vanish : GoodIn wsX4_delete (wsV RX4 102 RX4 yX4_vanish wsX4_vanish) := goodIn_app (goodIn_of _ (by decide +kernel)) ggX4_delete_X4_vanish
theorem dX4_delete_0 : decode cX4_delete 0 = .ok (.aload_n 0, 1) := by decide +kernel
theorem dX4_delete_1 : decode cX4_delete 1 = .ok (.getfield 7, 3) := by decide +kernel
theorem dX4_delete_4 : decode cX4_delete 4 = .ok (.ifCond .eq 11, 3) := by decide +kernel
theorem dX4_delete_7 : decode cX4_delete 7 = .ok (.aload_n 0, 1) := by decide +kernel
theorem dX4_delete_8 : decode cX4_delete 8 = .ok (.iload_n 1, 1) := by decide +kernel
theorem dX4_delete_9 : decode cX4_delete 9 = .ok (.invokevirtual 95, 3) := by decide +kernel
theorem dX4_delete_12 : decode cX4_delete 12 = .ok (.goto 4, 3) := by decide +kernel
theorem dX4_delete_15 : decode cX4_delete 15 = .ok (.iconst 0, 1) := by decide +kernel
theorem dX4_delete_16 : decode cX4_delete 16 = .ok (.istore_n 2, 1) := by decide +kernel
theorem dX4_delete_17 : decode cX4_delete 17 = .ok (.aload_n 0, 1) := by decide +kernel
theorem dX4_delete_18 : decode cX4_delete 18 = .ok (.aload_n 0, 1) := by decide +kernel
theorem dX4_delete_19 : decode cX4_delete 19 = .ok (.getfield 7, 3) := by decide +kernel
theorem dX4_delete_22 : decode cX4_delete 22 = .ok (.ifCond .ne 7, 3) := by decide +kernel
theorem dX4_delete_25 : decode cX4_delete 25 = .ok (.iconst 1, 1) := by decide +kernel
theorem dX4_delete_26 : decode cX4_delete 26 = .ok (.goto 12, 3) := by decide +kernel
theorem dX4_delete_29 : decode cX4_delete 29 = .ok (.iload_n 2, 1) := by decide +kernel
theorem dX4_delete_30 : decode cX4_delete 30 = .ok (.ifCond .ne 7, 3) := by decide +kernel
theorem dX4_delete_33 : decode cX4_delete 33 = .ok (.iconst 2, 1) := by decide +kernel
theorem dX4_delete_34 : decode cX4_delete 34 = .ok (.goto 4, 3) := by decide +kernel
theorem dX4_delete_37 : decode cX4_delete 37 = .ok (.iconst 0, 1) := by decide +kernel
theorem dX4_delete_38 : decode cX4_delete 38 = .ok (.putfield 36, 3) := by decide +kernel
theorem dX4_delete_41 : decode cX4_delete 41 = .ok (.aload_n 0, 1) := by decide +kernel
theorem dX4_delete_42 : decode cX4_delete 42 = .ok (.getfield 36, 3) := by decide +kernel
theorem dX4_delete_45 : decode cX4_delete 45 = .ok (.ifCond .le 7, 3) := by decide +kernel
theorem dX4_delete_48 : decode cX4_delete 48 = .ok (.iconst 0, 1) := by decide +kernel
theorem dX4_delete_49 : decode cX4_delete 49 = .ok (.goto 8, 3) := by decide +kernel
theorem dX4_delete_52 : decode cX4_delete 52 = .ok (.aload_n 0, 1) := by decide +kernel
theorem dX4_delete_53 : decode cX4_delete 53 = .ok (.iload_n 2, 1) := by decide +kernel
theorem dX4_delete_54 : decode cX4_delete 54 = .ok (.invokevirtual 102, 3) := by decide +kernel
theorem dX4_delete_57 : decode cX4_delete 57 = .ok (.ireturn, 1) := by decide +kernel
set_option maxRecDepth 20000 in
theorem ggX4_rename_X4_isName : GoodIn wsX4_rename wsX4_isName := goodIn_r _ [7] (by decide +kernel) (by decide +kernel)
set_option maxRecDepth 20000 in
theorem gX4_rename_X4_isName : GoodIn wsX4_rename (va_wsS RX4 66 yX4_isName wsX4_isName) := goodIn_app (goodIn_of _ (by decide +kernel)) ggX4_rename_X4_isName
set_option maxRecDepth 20000 in
theorem ggX4_rename_X4_permanent : GoodIn wsX4_rename wsX4_permanent := goodIn_r _ [11, 12, 3, 35, 36, 37, 38, 39, 40, 41, 42, 43, 44, 45, 46, 47, 48, 49, 50, 51, 52, 53, 54] (by decide +kernel) (by decide +kernel)
set_option maxRecDepth 20000 in
theorem gX4_rename_X4_permanent : GoodIn wsX4_rename (wsV RX4 95 RX4 yX4_permanent wsX4_permanent) := goodIn_app (goodIn_of _ (by decide +kernel)) ggX4_rename_X4_permanent
set_option maxRecDepth 20000 in
theorem ggX4_rename_X4_lay : GoodIn wsX4_rename wsX4_lay := goodIn_r _ [16, 17, 18, 35, 36, 37, 38, 39, 40, 41, 42, 43, 44, 45, 46, 47, 48, 49, 50, 51, 52, 53, 54] (by decide +kernel) (by decide +kernel)
set_option maxRecDepth 20000 in
theorem gX4_rename_X4_lay : GoodIn wsX4_rename (wsV RX4 80 RX4 yX4_lay wsX4_lay) := goodIn_app (goodIn_of _ (by decide +kernel)) ggX4_rename_X4_lay
set_option maxRecDepth 20000 in
theorem ggX4_rename_X4_change : GoodIn wsX4_rename wsX4_change := goodIn_r _ [22, 18, 17, 23, 24, 25, 6, 26, 27, 28, 29, 30, 31, 1, 32, 33, 34, 35, 36, 37, 38, 39, 40, 41, 42, 43, 44, 45, 46, 47, 48, 49, 50, 51, 52, 53, 54] (by decide +kernel) (by decide +kernel)
set_option maxRecDepth 20000 in
theorem gX4_rename_X4_change : GoodIn wsX4_rename (wsV RX4 83 RX4 yX4_change wsX4_change) := goodIn_app (goodIn_of _ (by decide +kernel)) ggX4_rename_X4_change
theorem dX4_rename_0 : decode cX4_rename 0 = .ok (.aload_n 0, 1) := by decide +kernel
theorem dX4_rename_1 : decode cX4_rename 1 = .ok (.aload_n 0, 1) := by decide +kernel
theorem dX4_rename_2 : decode cX4_rename 2 = .ok (.getfield 7, 3) := by decide +kernel
theorem dX4_rename_5 : decode cX4_rename 5 = .ok (.ifCond .ne 7, 3) := by decide +kernel
theorem dX4_rename_8 : decode cX4_rename 8 = .ok (.iconst 1, 1) := by decide +kernel
theorem dX4_rename_9 : decode cX4_rename 9 = .ok (.goto 39, 3) := by decide +kernel
theorem dX4_rename_12 : decode cX4_rename 12 = .ok (.iload_n 2, 1) := by decide +kernel
theorem dX4_rename_13 : decode cX4_rename 13 = .ok (.invokestatic 66, 3) := by decide +kernel
theorem dX4_rename_16 : decode cX4_rename 16 = .ok (.ifCond .ne 7, 3) := by decide +kernel
theorem dX4_rename_19 : decode cX4_rename 19 = .ok (.iconst 2, 1) := by decide +kernel
theorem dX4_rename_20 : decode cX4_rename 20 = .ok (.goto 28, 3) := by decide +kernel
theorem dX4_rename_23 : decode cX4_rename 23 = .ok (.aload_n 0, 1) := by decide +kernel
theorem dX4_rename_24 : decode cX4_rename 24 = .ok (.iload_n 1, 1) := by decide +kernel
theorem dX4_rename_25 : decode cX4_rename 25 = .ok (.invokevirtual 95, 3) := by decide +kernel
theorem dX4_rename_28 : decode cX4_rename 28 = .ok (.ifCond .ne 7, 3) := by decide +kernel
theorem dX4_rename_31 : decode cX4_rename 31 = .ok (.iconst 3, 1) := by decide +kernel
theorem dX4_rename_32 : decode cX4_rename 32 = .ok (.goto 16, 3) := by decide +kernel
theorem dX4_rename_35 : decode cX4_rename 35 = .ok (.aload_n 0, 1) := by decide +kernel
theorem dX4_rename_36 : decode cX4_rename 36 = .ok (.iload_n 2, 1) := by decide +kernel
theorem dX4_rename_37 : decode cX4_rename 37 = .ok (.invokevirtual 95, 3) := by decide +kernel
theorem dX4_rename_40 : decode cX4_rename 40 = .ok (.ifCond .le 7, 3) := by decide +kernel
theorem dX4_rename_43 : decode cX4_rename 43 = .ok (.iconst 4, 1) := by decide +kernel
theorem dX4_rename_44 : decode cX4_rename 44 = .ok (.goto 4, 3) := by decide +kernel
theorem dX4_rename_47 : decode cX4_rename 47 = .ok (.iconst 0, 1) := by decide +kernel
theorem dX4_rename_48 : decode cX4_rename 48 = .ok (.putfield 36, 3) := by decide +kernel
theorem dX4_rename_51 : decode cX4_rename 51 = .ok (.aload_n 0, 1) := by decide +kernel
theorem dX4_rename_52 : decode cX4_rename 52 = .ok (.getfield 36, 3) := by decide +kernel
theorem dX4_rename_55 : decode cX4_rename 55 = .ok (.ifCond .le 5, 3) := by decide +kernel
theorem dX4_rename_58 : decode cX4_rename 58 = .ok (.iconst 0, 1) := by decide +kernel
theorem dX4_rename_59 : decode cX4_rename 59 = .ok (.ireturn, 1) := by decide +kernel
theorem dX4_rename_60 : decode cX4_rename 60 = .ok (.aload_n 0, 1) := by decide +kernel
theorem dX4_rename_61 : decode cX4_rename 61 = .ok (.iload_n 1, 1) := by decide +kernel
theorem dX4_rename_62 : decode cX4_rename 62 = .ok (.invokevirtual 95, 3) := by decide +kernel
theorem dX4_rename_65 : decode cX4_rename 65 = .ok (.istore_n 3, 1) := by decide +kernel
theorem dX4_rename_66 : decode cX4_rename 66 = .ok (.aload_n 0, 1) := by decide +kernel
theorem dX4_rename_67 : decode cX4_rename 67 = .ok (.invokevirtual 80, 3) := by decide +kernel
theorem dX4_rename_70 : decode cX4_rename 70 = .ok (.aload_n 0, 1) := by decide +kernel
theorem dX4_rename_71 : decode cX4_rename 71 = .ok (.invokevirtual 83, 3) := by decide +kernel
theorem dX4_rename_74 : decode cX4_rename 74 = .ok (.ifCond .ne 5, 3) := by decide +kernel
theorem dX4_rename_77 : decode cX4_rename 77 = .ok (.iconst (-1), 1) := by decide +kernel
theorem dX4_rename_78 : decode cX4_rename 78 = .ok (.ireturn, 1) := by decide +kernel
theorem dX4_rename_79 : decode cX4_rename 79 = .ok (.aload_n 0, 1) := by decide +kernel
theorem dX4_rename_80 : decode cX4_rename 80 = .ok (.getfield 30, 3) := by decide +kernel
theorem dX4_rename_83 : decode cX4_rename 83 = .ok (.iload_n 3, 1) := by decide +kernel
theorem dX4_rename_84 : decode cX4_rename 84 = .ok (.iload_n 2, 1) := by decide +kernel
theorem dX4_rename_85 : decode cX4_rename 85 = .ok (.iastore, 1) := by decide +kernel
theorem dX4_rename_86 : decode cX4_rename 86 = .ok (.iconst 0, 1) := by decide +kernel
theorem dX4_rename_87 : decode cX4_rename 87 = .ok (.ireturn, 1) := by decide +kernel
set_option maxRecDepth 20000 in
theorem ggX4_read_X4_permanent : GoodIn wsX4_read wsX4_permanent := goodIn_r _ [8, 9, 10, 20, 21, 22, 23, 24, 25, 26, 27, 28, 29, 30, 31, 32, 33, 34, 35, 36, 37, 38, 39] (by decide +kernel) (by decide +kernel)
set_option maxRecDepth 20000 in
theorem gX4_read_X4_permanent : GoodIn wsX4_read (wsV RX4 95 RX4 yX4_permanent wsX4_permanent) := goodIn_app (goodIn_of _ (by decide +kernel)) ggX4_read_X4_permanent
set_option maxRecDepth 20000 in
theorem ggX4_read_X4_lengthOf : GoodIn wsX4_read wsX4_lengthOf := goodIn_r _ [14, 15, 20, 21, 22, 23, 24, 25, 26, 27, 28, 29, 30, 31, 32, 33, 34, 35, 36, 37, 38, 39] (by decide +kernel) (by decide +kernel)
set_option maxRecDepth 20000 in
theorem gX4_read_X4_lengthOf : GoodIn wsX4_read (wsV RX4 89 RX4 yX4_lengthOf wsX4_lengthOf) := goodIn_app (goodIn_of _ (by decide +kernel)) ggX4_read_X4_lengthOf
set_option maxRecDepth 20000 in
theorem ggX4_read_X4_beginOf : GoodIn wsX4_read wsX4_beginOf := goodIn_r _ [19, 15, 20, 21, 22, 23, 24, 25, 26, 27, 28, 29, 30, 31, 32, 33, 34, 35, 36, 37, 38, 39] (by decide +kernel) (by decide +kernel)
set_option maxRecDepth 20000 in
theorem gX4_read_X4_beginOf : GoodIn wsX4_read (wsV RX4 92 RX4 yX4_beginOf wsX4_beginOf) := goodIn_app (goodIn_of _ (by decide +kernel)) ggX4_read_X4_beginOf
theorem dX4_read_0 : decode cX4_read 0 = .ok (.aload_n 0, 1) := by decide +kernel
theorem dX4_read_1 : decode cX4_read 1 = .ok (.getfield 7, 3) := by decide +kernel
theorem dX4_read_4 : decode cX4_read 4 = .ok (.ifCond .eq 11, 3) := by decide +kernel
theorem dX4_read_7 : decode cX4_read 7 = .ok (.aload_n 0, 1) := by decide +kernel
theorem dX4_read_8 : decode cX4_read 8 = .ok (.iload_n 1, 1) := by decide +kernel
theorem dX4_read_9 : decode cX4_read 9 = .ok (.invokevirtual 95, 3) := by decide +kernel
theorem dX4_read_12 : decode cX4_read 12 = .ok (.goto 4, 3) := by decide +kernel
theorem dX4_read_15 : decode cX4_read 15 = .ok (.iconst 0, 1) := by decide +kernel
theorem dX4_read_16 : decode cX4_read 16 = .ok (.istore_n 3, 1) := by decide +kernel
theorem dX4_read_17 : decode cX4_read 17 = .ok (.aload_n 0, 1) := by decide +kernel
theorem dX4_read_18 : decode cX4_read 18 = .ok (.aload_n 0, 1) := by decide +kernel
theorem dX4_read_19 : decode cX4_read 19 = .ok (.getfield 7, 3) := by decide +kernel
theorem dX4_read_22 : decode cX4_read 22 = .ok (.ifCond .ne 7, 3) := by decide +kernel
theorem dX4_read_25 : decode cX4_read 25 = .ok (.iconst 1, 1) := by decide +kernel
theorem dX4_read_26 : decode cX4_read 26 = .ok (.goto 29, 3) := by decide +kernel
theorem dX4_read_29 : decode cX4_read 29 = .ok (.iload_n 3, 1) := by decide +kernel
theorem dX4_read_30 : decode cX4_read 30 = .ok (.ifCond .ne 7, 3) := by decide +kernel
theorem dX4_read_33 : decode cX4_read 33 = .ok (.iconst 2, 1) := by decide +kernel
theorem dX4_read_34 : decode cX4_read 34 = .ok (.goto 21, 3) := by decide +kernel
theorem dX4_read_37 : decode cX4_read 37 = .ok (.iload_n 2, 1) := by decide +kernel
theorem dX4_read_38 : decode cX4_read 38 = .ok (.ifCond .lt 12, 3) := by decide +kernel
theorem dX4_read_41 : decode cX4_read 41 = .ok (.iload_n 2, 1) := by decide +kernel
theorem dX4_read_42 : decode cX4_read 42 = .ok (.aload_n 0, 1) := by decide +kernel
theorem dX4_read_43 : decode cX4_read 43 = .ok (.iload_n 3, 1) := by decide +kernel
theorem dX4_read_44 : decode cX4_read 44 = .ok (.invokevirtual 89, 3) := by decide +kernel
theorem dX4_read_47 : decode cX4_read 47 = .ok (.if_icmp .lt 7, 3) := by decide +kernel
theorem dX4_read_50 : decode cX4_read 50 = .ok (.iconst 3, 1) := by decide +kernel
theorem dX4_read_51 : decode cX4_read 51 = .ok (.goto 4, 3) := by decide +kernel
theorem dX4_read_54 : decode cX4_read 54 = .ok (.iconst 0, 1) := by decide +kernel
theorem dX4_read_55 : decode cX4_read 55 = .ok (.putfield 36, 3) := by decide +kernel
theorem dX4_read_58 : decode cX4_read 58 = .ok (.aload_n 0, 1) := by decide +kernel
theorem dX4_read_59 : decode cX4_read 59 = .ok (.getfield 36, 3) := by decide +kernel
theorem dX4_read_62 : decode cX4_read 62 = .ok (.ifCond .le 7, 3) := by decide +kernel
theorem dX4_read_65 : decode cX4_read 65 = .ok (.iconst 0, 1) := by decide +kernel
theorem dX4_read_66 : decode cX4_read 66 = .ok (.goto 15, 3) := by decide +kernel
theorem dX4_read_69 : decode cX4_read 69 = .ok (.aload_n 0, 1) := by decide +kernel
theorem dX4_read_70 : decode cX4_read 70 = .ok (.getfield 17, 3) := by decide +kernel
theorem dX4_read_73 : decode cX4_read 73 = .ok (.aload_n 0, 1) := by decide +kernel
theorem dX4_read_74 : decode cX4_read 74 = .ok (.iload_n 3, 1) := by decide +kernel
theorem dX4_read_75 : decode cX4_read 75 = .ok (.invokevirtual 92, 3) := by decide +kernel
theorem dX4_read_78 : decode cX4_read 78 = .ok (.iload_n 2, 1) := by decide +kernel
theorem dX4_read_79 : decode cX4_read 79 = .ok (.iadd, 1) := by decide +kernel
theorem dX4_read_80 : decode cX4_read 80 = .ok (.iaload, 1) := by decide +kernel
theorem dX4_read_81 : decode cX4_read 81 = .ok (.ireturn, 1) := by decide +kernel
set_option maxRecDepth 20000 in
theorem ggX4_findMover_X4_runFrom : GoodIn wsX4_findMover wsX4_runFrom := goodIn_r _ [9, 2, 10, 11, 12, 13, 14, 15, 16, 17, 18, 19, 20, 21, 22, 23, 24, 25, 26, 27, 28, 29] (by decide +kernel) (by decide +kernel)
set_option maxRecDepth 20000 in
theorem gX4_findMover_X4_runFrom : GoodIn wsX4_findMover (wsV RX4 59 RX4 yX4_runFrom wsX4_runFrom) := goodIn_app (goodIn_of _ (by decide +kernel)) ggX4_findMover_X4_runFrom
theorem dX4_findMover_0 : decode cX4_findMover 0 = .ok (.aload_n 0, 1) := by decide +kernel
theorem dX4_findMover_1 : decode cX4_findMover 1 = .ok (.iconst 0, 1) := by decide +kernel
theorem dX4_findMover_2 : decode cX4_findMover 2 = .ok (.putfield 105, 3) := by decide +kernel
theorem dX4_findMover_5 : decode cX4_findMover 5 = .ok (.iconst 0, 1) := by decide +kernel
theorem dX4_findMover_6 : decode cX4_findMover 6 = .ok (.istore_n 1, 1) := by decide +kernel
theorem dX4_findMover_7 : decode cX4_findMover 7 = .ok (.iload_n 1, 1) := by decide +kernel
theorem dX4_findMover_8 : decode cX4_findMover 8 = .ok (.bipush 48, 2) := by decide +kernel
theorem dX4_findMover_10 : decode cX4_findMover 10 = .ok (.if_icmp .ge 64, 3) := by decide +kernel
theorem dX4_findMover_13 : decode cX4_findMover 13 = .ok (.aload_n 0, 1) := by decide +kernel
theorem dX4_findMover_14 : decode cX4_findMover 14 = .ok (.getfield 105, 3) := by decide +kernel
theorem dX4_findMover_17 : decode cX4_findMover 17 = .ok (.ifCond .ne 57, 3) := by decide +kernel
theorem dX4_findMover_20 : decode cX4_findMover 20 = .ok (.aload_n 0, 1) := by decide +kernel
theorem dX4_findMover_21 : decode cX4_findMover 21 = .ok (.iload_n 1, 1) := by decide +kernel
theorem dX4_findMover_22 : decode cX4_findMover 22 = .ok (.invokevirtual 59, 3) := by decide +kernel
theorem dX4_findMover_25 : decode cX4_findMover 25 = .ok (.istore_n 2, 1) := by decide +kernel
theorem dX4_findMover_26 : decode cX4_findMover 26 = .ok (.aload_n 0, 1) := by decide +kernel
theorem dX4_findMover_27 : decode cX4_findMover 27 = .ok (.getfield 21, 3) := by decide +kernel
theorem dX4_findMover_30 : decode cX4_findMover 30 = .ok (.iload_n 1, 1) := by decide +kernel
theorem dX4_findMover_31 : decode cX4_findMover 31 = .ok (.iaload, 1) := by decide +kernel
theorem dX4_findMover_32 : decode cX4_findMover 32 = .ok (.ifCond .ne 35, 3) := by decide +kernel
theorem dX4_findMover_35 : decode cX4_findMover 35 = .ok (.iload_n 1, 1) := by decide +kernel
theorem dX4_findMover_36 : decode cX4_findMover 36 = .ok (.iload_n 2, 1) := by decide +kernel
theorem dX4_findMover_37 : decode cX4_findMover 37 = .ok (.iadd, 1) := by decide +kernel
theorem dX4_findMover_38 : decode cX4_findMover 38 = .ok (.bipush 48, 2) := by decide +kernel
theorem dX4_findMover_40 : decode cX4_findMover 40 = .ok (.if_icmp .ge 27, 3) := by decide +kernel
theorem dX4_findMover_43 : decode cX4_findMover 43 = .ok (.aload_n 0, 1) := by decide +kernel
theorem dX4_findMover_44 : decode cX4_findMover 44 = .ok (.aload_n 0, 1) := by decide +kernel
theorem dX4_findMover_45 : decode cX4_findMover 45 = .ok (.getfield 21, 3) := by decide +kernel
theorem dX4_findMover_48 : decode cX4_findMover 48 = .ok (.iload_n 1, 1) := by decide +kernel
theorem dX4_findMover_49 : decode cX4_findMover 49 = .ok (.iload_n 2, 1) := by decide +kernel
theorem dX4_findMover_50 : decode cX4_findMover 50 = .ok (.iadd, 1) := by decide +kernel
theorem dX4_findMover_51 : decode cX4_findMover 51 = .ok (.iaload, 1) := by decide +kernel
theorem dX4_findMover_52 : decode cX4_findMover 52 = .ok (.putfield 105, 3) := by decide +kernel
theorem dX4_findMover_55 : decode cX4_findMover 55 = .ok (.aload_n 0, 1) := by decide +kernel
theorem dX4_findMover_56 : decode cX4_findMover 56 = .ok (.iload_n 1, 1) := by decide +kernel
theorem dX4_findMover_57 : decode cX4_findMover 57 = .ok (.iload_n 2, 1) := by decide +kernel
theorem dX4_findMover_58 : decode cX4_findMover 58 = .ok (.iadd, 1) := by decide +kernel
theorem dX4_findMover_59 : decode cX4_findMover 59 = .ok (.putfield 108, 3) := by decide +kernel
theorem dX4_findMover_62 : decode cX4_findMover 62 = .ok (.aload_n 0, 1) := by decide +kernel
theorem dX4_findMover_63 : decode cX4_findMover 63 = .ok (.iload_n 2, 1) := by decide +kernel
theorem dX4_findMover_64 : decode cX4_findMover 64 = .ok (.putfield 111, 3) := by decide +kernel
theorem dX4_findMover_67 : decode cX4_findMover 67 = .ok (.iload_n 1, 1) := by decide +kernel
theorem dX4_findMover_68 : decode cX4_findMover 68 = .ok (.iload_n 2, 1) := by decide +kernel
theorem dX4_findMover_69 : decode cX4_findMover 69 = .ok (.iadd, 1) := by decide +kernel
theorem dX4_findMover_70 : decode cX4_findMover 70 = .ok (.istore_n 1, 1) := by decide +kernel
theorem dX4_findMover_71 : decode cX4_findMover 71 = .ok (.goto (-64), 3) := by decide +kernel
theorem dX4_findMover_74 : decode cX4_findMover 74 = .ok (.aload_n 0, 1) := by decide +kernel
theorem dX4_findMover_75 : decode cX4_findMover 75 = .ok (.getfield 105, 3) := by decide +kernel
theorem dX4_findMover_78 : decode cX4_findMover 78 = .ok (.ifCond .le 7, 3) := by decide +kernel
theorem dX4_findMover_81 : decode cX4_findMover 81 = .ok (.iconst 1, 1) := by decide +kernel
theorem dX4_findMover_82 : decode cX4_findMover 82 = .ok (.goto 4, 3) := by decide +kernel
theorem dX4_findMover_85 : decode cX4_findMover 85 = .ok (.iconst 0, 1) := by decide +kernel
theorem dX4_findMover_86 : decode cX4_findMover 86 = .ok (.ireturn, 1) := by decide +kernel
set_option maxRecDepth 20000 in
theorem ggX4_move_X4_lengthOf : GoodIn wsX4_move wsX4_lengthOf := goodIn_r _ [13, 14, 36, 37, 38, 39, 40, 41, 42, 43, 44, 45, 46, 47, 48, 49, 50, 51, 52, 53, 54, 55] (by decide +kernel) (by decide +kernel)
set_option maxRecDepth 20000 in
theorem gX4_move_X4_lengthOf : GoodIn wsX4_move (wsV RX4 89 RX4 yX4_lengthOf wsX4_lengthOf) := goodIn_app (goodIn_of _ (by decide +kernel)) ggX4_move_X4_lengthOf
set_option maxRecDepth 20000 in
theorem ggX4_move_X4_write : GoodIn wsX4_move wsX4_write := goodIn_r _ [18, 19, 20, 21, 22, 23, 36, 37, 38, 39, 40, 41, 42, 43, 44, 45, 46, 47, 48, 49, 50, 51, 52, 53, 54, 55] (by decide +kernel) (by decide +kernel)
set_option maxRecDepth 20000 in
theorem gX4_move_X4_write : GoodIn wsX4_move (wsV RX4 52 RX4 yX4_write wsX4_write) := goodIn_app (goodIn_of _ (by decide +kernel)) ggX4_move_X4_write
set_option maxRecDepth 20000 in
theorem ggX4_move_X4_lay : GoodIn wsX4_move wsX4_lay := goodIn_r _ [27, 8, 14, 36, 37, 38, 39, 40, 41, 42, 43, 44, 45, 46, 47, 48, 49, 50, 51, 52, 53, 54, 55] (by decide +kernel) (by decide +kernel)
set_option maxRecDepth 20000 in
theorem gX4_move_X4_lay : GoodIn wsX4_move (wsV RX4 80 RX4 yX4_lay wsX4_lay) := goodIn_app (goodIn_of _ (by decide +kernel)) ggX4_move_X4_lay
set_option maxRecDepth 20000 in
theorem ggX4_move_X4_change : GoodIn wsX4_move wsX4_change := goodIn_r _ [31, 14, 8, 32, 33, 34, 12, 35, 15, 16, 17, 18, 19, 20, 21, 22, 23, 36, 37, 38, 39, 40, 41, 42, 43, 44, 45, 46, 47, 48, 49, 50, 51, 52, 53, 54, 55] (by decide +kernel) (by decide +kernel)
set_option maxRecDepth 20000 in
theorem gX4_move_X4_change : GoodIn wsX4_move (wsV RX4 83 RX4 yX4_change wsX4_change) := goodIn_app (goodIn_of _ (by decide +kernel)) ggX4_move_X4_change
theorem dX4_move_0 : decode cX4_move 0 = .ok (.aload_n 0, 1) := by decide +kernel
theorem dX4_move_1 : decode cX4_move 1 = .ok (.aload_n 0, 1) := by decide +kernel
theorem dX4_move_2 : decode cX4_move 2 = .ok (.getfield 105, 3) := by decide +kernel
theorem dX4_move_5 : decode cX4_move 5 = .ok (.invokevirtual 89, 3) := by decide +kernel
theorem dX4_move_8 : decode cX4_move 8 = .ok (.istore_n 3, 1) := by decide +kernel
theorem dX4_move_9 : decode cX4_move 9 = .ok (.aload_n 0, 1) := by decide +kernel
theorem dX4_move_10 : decode cX4_move 10 = .ok (.getfield 111, 3) := by decide +kernel
theorem dX4_move_13 : decode cX4_move 13 = .ok (.bipush 8, 2) := by decide +kernel
theorem dX4_move_15 : decode cX4_move 15 = .ok (.if_icmp .ge 10, 3) := by decide +kernel
theorem dX4_move_18 : decode cX4_move 18 = .ok (.aload_n 0, 1) := by decide +kernel
theorem dX4_move_19 : decode cX4_move 19 = .ok (.getfield 111, 3) := by decide +kernel
theorem dX4_move_22 : decode cX4_move 22 = .ok (.goto 5, 3) := by decide +kernel
theorem dX4_move_25 : decode cX4_move 25 = .ok (.bipush 8, 2) := by decide +kernel
theorem dX4_move_27 : decode cX4_move 27 = .ok (.istore 4, 2) := by decide +kernel
theorem dX4_move_29 : decode cX4_move 29 = .ok (.iload_n 1, 1) := by decide +kernel
theorem dX4_move_30 : decode cX4_move 30 = .ok (.istore 5, 2) := by decide +kernel
theorem dX4_move_32 : decode cX4_move 32 = .ok (.iload 5, 2) := by decide +kernel
theorem dX4_move_34 : decode cX4_move 34 = .ok (.iload_n 3, 1) := by decide +kernel
theorem dX4_move_35 : decode cX4_move 35 = .ok (.if_icmp .ge 117, 3) := by decide +kernel
theorem dX4_move_38 : decode cX4_move 38 = .ok (.iload 5, 2) := by decide +kernel
theorem dX4_move_40 : decode cX4_move 40 = .ok (.iload_n 1, 1) := by decide +kernel
theorem dX4_move_41 : decode cX4_move 41 = .ok (.if_icmp .gt 7, 3) := by decide +kernel
theorem dX4_move_44 : decode cX4_move 44 = .ok (.iload_n 2, 1) := by decide +kernel
theorem dX4_move_45 : decode cX4_move 45 = .ok (.ifCond .ne 23, 3) := by decide +kernel
theorem dX4_move_48 : decode cX4_move 48 = .ok (.aload_n 0, 1) := by decide +kernel
theorem dX4_move_49 : decode cX4_move 49 = .ok (.invokevirtual 52, 3) := by decide +kernel
theorem dX4_move_52 : decode cX4_move 52 = .ok (.ifCond .ne 5, 3) := by decide +kernel
theorem dX4_move_55 : decode cX4_move 55 = .ok (.iconst 0, 1) := by decide +kernel
theorem dX4_move_56 : decode cX4_move 56 = .ok (.ireturn, 1) := by decide +kernel
theorem dX4_move_57 : decode cX4_move 57 = .ok (.aload_n 0, 1) := by decide +kernel
theorem dX4_move_58 : decode cX4_move 58 = .ok (.iconst 1, 1) := by decide +kernel
theorem dX4_move_59 : decode cX4_move 59 = .ok (.putfield 114, 3) := by decide +kernel
theorem dX4_move_62 : decode cX4_move 62 = .ok (.aload_n 0, 1) := by decide +kernel
theorem dX4_move_63 : decode cX4_move 63 = .ok (.iload 5, 2) := by decide +kernel
theorem dX4_move_65 : decode cX4_move 65 = .ok (.putfield 117, 3) := by decide +kernel
theorem dX4_move_68 : decode cX4_move 68 = .ok (.iload 5, 2) := by decide +kernel
theorem dX4_move_70 : decode cX4_move 70 = .ok (.istore 6, 2) := by decide +kernel
theorem dX4_move_72 : decode cX4_move 72 = .ok (.iload 6, 2) := by decide +kernel
theorem dX4_move_74 : decode cX4_move 74 = .ok (.iload 5, 2) := by decide +kernel
theorem dX4_move_76 : decode cX4_move 76 = .ok (.iload 4, 2) := by decide +kernel
theorem dX4_move_78 : decode cX4_move 78 = .ok (.iadd, 1) := by decide +kernel
theorem dX4_move_79 : decode cX4_move 79 = .ok (.if_icmp .ge 63, 3) := by decide +kernel
theorem dX4_move_82 : decode cX4_move 82 = .ok (.iload 6, 2) := by decide +kernel
theorem dX4_move_84 : decode cX4_move 84 = .ok (.iload_n 3, 1) := by decide +kernel
theorem dX4_move_85 : decode cX4_move 85 = .ok (.if_icmp .ge 57, 3) := by decide +kernel
theorem dX4_move_88 : decode cX4_move 88 = .ok (.aload_n 0, 1) := by decide +kernel
theorem dX4_move_89 : decode cX4_move 89 = .ok (.invokevirtual 52, 3) := by decide +kernel
theorem dX4_move_92 : decode cX4_move 92 = .ok (.ifCond .ne 5, 3) := by decide +kernel
theorem dX4_move_95 : decode cX4_move 95 = .ok (.iconst 0, 1) := by decide +kernel
theorem dX4_move_96 : decode cX4_move 96 = .ok (.ireturn, 1) := by decide +kernel
theorem dX4_move_97 : decode cX4_move 97 = .ok (.aload_n 0, 1) := by decide +kernel
theorem dX4_move_98 : decode cX4_move 98 = .ok (.getfield 17, 3) := by decide +kernel
theorem dX4_move_101 : decode cX4_move 101 = .ok (.aload_n 0, 1) := by decide +kernel
theorem dX4_move_102 : decode cX4_move 102 = .ok (.getfield 108, 3) := by decide +kernel
theorem dX4_move_105 : decode cX4_move 105 = .ok (.iload 6, 2) := by decide +kernel
theorem dX4_move_107 : decode cX4_move 107 = .ok (.iadd, 1) := by decide +kernel
theorem dX4_move_108 : decode cX4_move 108 = .ok (.aload_n 0, 1) := by decide +kernel
theorem dX4_move_109 : decode cX4_move 109 = .ok (.getfield 111, 3) := by decide +kernel
theorem dX4_move_112 : decode cX4_move 112 = .ok (.isub, 1) := by decide +kernel
theorem dX4_move_113 : decode cX4_move 113 = .ok (.aload_n 0, 1) := by decide +kernel
theorem dX4_move_114 : decode cX4_move 114 = .ok (.getfield 17, 3) := by decide +kernel
theorem dX4_move_117 : decode cX4_move 117 = .ok (.aload_n 0, 1) := by decide +kernel
theorem dX4_move_118 : decode cX4_move 118 = .ok (.getfield 108, 3) := by decide +kernel
theorem dX4_move_121 : decode cX4_move 121 = .ok (.iload 6, 2) := by decide +kernel
theorem dX4_move_123 : decode cX4_move 123 = .ok (.iadd, 1) := by decide +kernel
theorem dX4_move_124 : decode cX4_move 124 = .ok (.iaload, 1) := by decide +kernel
theorem dX4_move_125 : decode cX4_move 125 = .ok (.iastore, 1) := by decide +kernel
theorem dX4_move_126 : decode cX4_move 126 = .ok (.aload_n 0, 1) := by decide +kernel
theorem dX4_move_127 : decode cX4_move 127 = .ok (.dup, 1) := by decide +kernel
theorem dX4_move_128 : decode cX4_move 128 = .ok (.getfield 120, 3) := by decide +kernel
theorem dX4_move_131 : decode cX4_move 131 = .ok (.iconst 1, 1) := by decide +kernel
theorem dX4_move_132 : decode cX4_move 132 = .ok (.iadd, 1) := by decide +kernel
theorem dX4_move_133 : decode cX4_move 133 = .ok (.putfield 120, 3) := by decide +kernel
theorem dX4_move_136 : decode cX4_move 136 = .ok (.iinc 6 1, 3) := by decide +kernel
theorem dX4_move_139 : decode cX4_move 139 = .ok (.goto (-67), 3) := by decide +kernel
theorem dX4_move_142 : decode cX4_move 142 = .ok (.iload 5, 2) := by decide +kernel
theorem dX4_move_144 : decode cX4_move 144 = .ok (.iload 4, 2) := by decide +kernel
theorem dX4_move_146 : decode cX4_move 146 = .ok (.iadd, 1) := by decide +kernel
theorem dX4_move_147 : decode cX4_move 147 = .ok (.istore 5, 2) := by decide +kernel
theorem dX4_move_149 : decode cX4_move 149 = .ok (.goto (-117), 3) := by decide +kernel
theorem dX4_move_152 : decode cX4_move 152 = .ok (.aload_n 0, 1) := by decide +kernel
theorem dX4_move_153 : decode cX4_move 153 = .ok (.invokevirtual 80, 3) := by decide +kernel
theorem dX4_move_156 : decode cX4_move 156 = .ok (.aload_n 0, 1) := by decide +kernel
theorem dX4_move_157 : decode cX4_move 157 = .ok (.getfield 108, 3) := by decide +kernel
theorem dX4_move_160 : decode cX4_move 160 = .ok (.aload_n 0, 1) := by decide +kernel
theorem dX4_move_161 : decode cX4_move 161 = .ok (.getfield 111, 3) := by decide +kernel
theorem dX4_move_164 : decode cX4_move 164 = .ok (.isub, 1) := by decide +kernel
theorem dX4_move_165 : decode cX4_move 165 = .ok (.istore 5, 2) := by decide +kernel
theorem dX4_move_167 : decode cX4_move 167 = .ok (.iload 5, 2) := by decide +kernel
theorem dX4_move_169 : decode cX4_move 169 = .ok (.aload_n 0, 1) := by decide +kernel
theorem dX4_move_170 : decode cX4_move 170 = .ok (.getfield 108, 3) := by decide +kernel
theorem dX4_move_173 : decode cX4_move 173 = .ok (.iload_n 3, 1) := by decide +kernel
theorem dX4_move_174 : decode cX4_move 174 = .ok (.iadd, 1) := by decide +kernel
theorem dX4_move_175 : decode cX4_move 175 = .ok (.if_icmp .ge 40, 3) := by decide +kernel
theorem dX4_move_178 : decode cX4_move 178 = .ok (.aload_n 0, 1) := by decide +kernel
theorem dX4_move_179 : decode cX4_move 179 = .ok (.getfield 24, 3) := by decide +kernel
theorem dX4_move_182 : decode cX4_move 182 = .ok (.iload 5, 2) := by decide +kernel
theorem dX4_move_184 : decode cX4_move 184 = .ok (.iload 5, 2) := by decide +kernel
theorem dX4_move_186 : decode cX4_move 186 = .ok (.aload_n 0, 1) := by decide +kernel
theorem dX4_move_187 : decode cX4_move 187 = .ok (.getfield 108, 3) := by decide +kernel
theorem dX4_move_190 : decode cX4_move 190 = .ok (.aload_n 0, 1) := by decide +kernel
theorem dX4_move_191 : decode cX4_move 191 = .ok (.getfield 111, 3) := by decide +kernel
theorem dX4_move_194 : decode cX4_move 194 = .ok (.isub, 1) := by decide +kernel
theorem dX4_move_195 : decode cX4_move 195 = .ok (.iload_n 3, 1) := by decide +kernel
theorem dX4_move_196 : decode cX4_move 196 = .ok (.iadd, 1) := by decide +kernel
theorem dX4_move_197 : decode cX4_move 197 = .ok (.if_icmp .ge 10, 3) := by decide +kernel
theorem dX4_move_200 : decode cX4_move 200 = .ok (.aload_n 0, 1) := by decide +kernel
theorem dX4_move_201 : decode cX4_move 201 = .ok (.getfield 105, 3) := by decide +kernel
theorem dX4_move_204 : decode cX4_move 204 = .ok (.goto 4, 3) := by decide +kernel
theorem dX4_move_207 : decode cX4_move 207 = .ok (.iconst 0, 1) := by decide +kernel
theorem dX4_move_208 : decode cX4_move 208 = .ok (.iastore, 1) := by decide +kernel
theorem dX4_move_209 : decode cX4_move 209 = .ok (.iinc 5 1, 3) := by decide +kernel
theorem dX4_move_212 : decode cX4_move 212 = .ok (.goto (-45), 3) := by decide +kernel
theorem dX4_move_215 : decode cX4_move 215 = .ok (.aload_n 0, 1) := by decide +kernel
theorem dX4_move_216 : decode cX4_move 216 = .ok (.invokevirtual 83, 3) := by decide +kernel
theorem dX4_move_219 : decode cX4_move 219 = .ok (.ifCond .ne 5, 3) := by decide +kernel
theorem dX4_move_222 : decode cX4_move 222 = .ok (.iconst 0, 1) := by decide +kernel
theorem dX4_move_223 : decode cX4_move 223 = .ok (.ireturn, 1) := by decide +kernel
theorem dX4_move_224 : decode cX4_move 224 = .ok (.aload_n 0, 1) := by decide +kernel
theorem dX4_move_225 : decode cX4_move 225 = .ok (.iconst 0, 1) := by decide +kernel
theorem dX4_move_226 : decode cX4_move 226 = .ok (.putfield 114, 3) := by decide +kernel
theorem dX4_move_229 : decode cX4_move 229 = .ok (.iconst 1, 1) := by decide +kernel
theorem dX4_move_230 : decode cX4_move 230 = .ok (.ireturn, 1) := by decide +kernel
set_option maxRecDepth 20000 in
theorem ggX4_moveAll_X4_findMover : GoodIn wsX4_moveAll wsX4_findMover := goodIn_r _ [5, 6, 7, 8, 9, 10, 11, 12, 4, 13, 48, 49, 50, 51, 52, 53, 54, 55, 56, 57, 58, 59, 60, 61, 62, 63, 64, 65, 66, 67] (by decide +kernel) (by decide +kernel)
set_option maxRecDepth 20000 in
theorem gX4_moveAll_X4_findMover : GoodIn wsX4_moveAll (wsV RX4 123 RX4 yX4_findMover wsX4_findMover) := goodIn_app (goodIn_of _ (by decide +kernel)) ggX4_moveAll_X4_findMover
set_option maxRecDepth 20000 in
theorem ggX4_moveAll_X4_move : GoodIn wsX4_moveAll wsX4_move := goodIn_r _ [17, 6, 9, 18, 19, 20, 8, 21, 22, 23, 24, 25, 4, 26, 7, 27, 28, 29, 30, 31, 32, 33, 34, 35, 36, 37, 38, 39, 40, 41, 42, 43, 44, 45, 46, 47, 48, 49, 50, 51, 52, 53, 54, 55, 56, 57, 58, 59, 60, 61, 62, 63, 64, 65, 66, 67] (by decide +kernel) (by decide +kernel)
set_option maxRecDepth 20000 in
theorem gX4_moveAll_X4_move : GoodIn wsX4_moveAll (wsV RX4 126 RX4 yX4_move wsX4_move) := goodIn_app (goodIn_of _ (by decide +kernel)) ggX4_moveAll_X4_move
theorem dX4_moveAll_0 : decode cX4_moveAll 0 = .ok (.aload_n 0, 1) := by decide +kernel
theorem dX4_moveAll_1 : decode cX4_moveAll 1 = .ok (.invokevirtual 123, 3) := by decide +kernel
theorem dX4_moveAll_4 : decode cX4_moveAll 4 = .ok (.ifCond .eq 14, 3) := by decide +kernel
theorem dX4_moveAll_7 : decode cX4_moveAll 7 = .ok (.aload_n 0, 1) := by decide +kernel
theorem dX4_moveAll_8 : decode cX4_moveAll 8 = .ok (.iconst 0, 1) := by decide +kernel
theorem dX4_moveAll_9 : decode cX4_moveAll 9 = .ok (.iconst 0, 1) := by decide +kernel
theorem dX4_moveAll_10 : decode cX4_moveAll 10 = .ok (.invokevirtual 126, 3) := by decide +kernel
theorem dX4_moveAll_13 : decode cX4_moveAll 13 = .ok (.ifCond .ne (-13), 3) := by decide +kernel
theorem dX4_moveAll_16 : decode cX4_moveAll 16 = .ok (.iconst 0, 1) := by decide +kernel
theorem dX4_moveAll_17 : decode cX4_moveAll 17 = .ok (.ireturn, 1) := by decide +kernel
theorem dX4_moveAll_18 : decode cX4_moveAll 18 = .ok (.iconst 1, 1) := by decide +kernel
theorem dX4_moveAll_19 : decode cX4_moveAll 19 = .ok (.ireturn, 1) := by decide +kernel
set_option maxRecDepth 20000 in
theorem ggX4_squeeze_X4_howMany : GoodIn wsX4_squeeze wsX4_howMany := goodIn_r _ [10, 11, 58, 59, 60, 61, 62, 63, 64, 65, 66, 67, 68, 69, 70, 71, 72, 73, 74, 75, 76, 77] (by decide +kernel) (by decide +kernel)
set_option maxRecDepth 20000 in
theorem gX4_squeeze_X4_howMany : GoodIn wsX4_squeeze (wsV RX4 70 RX4 yX4_howMany wsX4_howMany) := goodIn_app (goodIn_of _ (by decide +kernel)) ggX4_squeeze_X4_howMany
set_option maxRecDepth 20000 in
theorem ggX4_squeeze_X4_moveAll : GoodIn wsX4_squeeze wsX4_moveAll := goodIn_r _ [15, 16, 17, 18, 9, 19, 20, 21, 22, 23, 24, 25, 26, 27, 28, 29, 30, 31, 32, 33, 34, 3, 35, 36, 37, 38, 39, 40, 41, 42, 43, 44, 1, 45, 5, 4, 46, 47, 48, 49, 50, 51, 52, 53, 54, 55, 56, 57, 58, 59, 60, 61, 62, 63, 64, 65, 66, 67, 68, 69, 70, 71, 72, 73, 74, 75, 76, 77] (by decide +kernel) (by decide +kernel)
set_option maxRecDepth 20000 in
theorem gX4_squeeze_X4_moveAll : GoodIn wsX4_squeeze (wsV RX4 130 RX4 yX4_moveAll wsX4_moveAll) := goodIn_app (goodIn_of _ (by decide +kernel)) ggX4_squeeze_X4_moveAll
theorem dX4_squeeze_0 : decode cX4_squeeze 0 = .ok (.aload_n 0, 1) := by decide +kernel
theorem dX4_squeeze_1 : decode cX4_squeeze 1 = .ok (.aload_n 0, 1) := by decide +kernel
theorem dX4_squeeze_2 : decode cX4_squeeze 2 = .ok (.getfield 7, 3) := by decide +kernel
theorem dX4_squeeze_5 : decode cX4_squeeze 5 = .ok (.ifCond .eq 11, 3) := by decide +kernel
theorem dX4_squeeze_8 : decode cX4_squeeze 8 = .ok (.aload_n 0, 1) := by decide +kernel
theorem dX4_squeeze_9 : decode cX4_squeeze 9 = .ok (.iconst 1, 1) := by decide +kernel
theorem dX4_squeeze_10 : decode cX4_squeeze 10 = .ok (.invokevirtual 70, 3) := by decide +kernel
theorem dX4_squeeze_13 : decode cX4_squeeze 13 = .ok (.ifCond .le 7, 3) := by decide +kernel
theorem dX4_squeeze_16 : decode cX4_squeeze 16 = .ok (.iconst 1, 1) := by decide +kernel
theorem dX4_squeeze_17 : decode cX4_squeeze 17 = .ok (.goto 4, 3) := by decide +kernel
theorem dX4_squeeze_20 : decode cX4_squeeze 20 = .ok (.iconst 0, 1) := by decide +kernel
theorem dX4_squeeze_21 : decode cX4_squeeze 21 = .ok (.putfield 36, 3) := by decide +kernel
theorem dX4_squeeze_24 : decode cX4_squeeze 24 = .ok (.aload_n 0, 1) := by decide +kernel
theorem dX4_squeeze_25 : decode cX4_squeeze 25 = .ok (.getfield 36, 3) := by decide +kernel
theorem dX4_squeeze_28 : decode cX4_squeeze 28 = .ok (.ifCond .le 5, 3) := by decide +kernel
theorem dX4_squeeze_31 : decode cX4_squeeze 31 = .ok (.iconst 0, 1) := by decide +kernel
theorem dX4_squeeze_32 : decode cX4_squeeze 32 = .ok (.ireturn, 1) := by decide +kernel
theorem dX4_squeeze_33 : decode cX4_squeeze 33 = .ok (.aload_n 0, 1) := by decide +kernel
theorem dX4_squeeze_34 : decode cX4_squeeze 34 = .ok (.iconst 0, 1) := by decide +kernel
theorem dX4_squeeze_35 : decode cX4_squeeze 35 = .ok (.putfield 120, 3) := by decide +kernel
theorem dX4_squeeze_38 : decode cX4_squeeze 38 = .ok (.aload_n 0, 1) := by decide +kernel
theorem dX4_squeeze_39 : decode cX4_squeeze 39 = .ok (.iconst 1, 1) := by decide +kernel
theorem dX4_squeeze_40 : decode cX4_squeeze 40 = .ok (.putfield 45, 3) := by decide +kernel
theorem dX4_squeeze_43 : decode cX4_squeeze 43 = .ok (.aload_n 0, 1) := by decide +kernel
theorem dX4_squeeze_44 : decode cX4_squeeze 44 = .ok (.invokevirtual 130, 3) := by decide +kernel
theorem dX4_squeeze_47 : decode cX4_squeeze 47 = .ok (.istore_n 1, 1) := by decide +kernel
theorem dX4_squeeze_48 : decode cX4_squeeze 48 = .ok (.aload_n 0, 1) := by decide +kernel
theorem dX4_squeeze_49 : decode cX4_squeeze 49 = .ok (.iconst 0, 1) := by decide +kernel
theorem dX4_squeeze_50 : decode cX4_squeeze 50 = .ok (.putfield 45, 3) := by decide +kernel
theorem dX4_squeeze_53 : decode cX4_squeeze 53 = .ok (.aload_n 0, 1) := by decide +kernel
theorem dX4_squeeze_54 : decode cX4_squeeze 54 = .ok (.aload_n 0, 1) := by decide +kernel
theorem dX4_squeeze_55 : decode cX4_squeeze 55 = .ok (.getfield 42, 3) := by decide +kernel
theorem dX4_squeeze_58 : decode cX4_squeeze 58 = .ok (.ifCond .eq 11, 3) := by decide +kernel
theorem dX4_squeeze_61 : decode cX4_squeeze 61 = .ok (.iload_n 1, 1) := by decide +kernel
theorem dX4_squeeze_62 : decode cX4_squeeze 62 = .ok (.ifCond .ne 7, 3) := by decide +kernel
theorem dX4_squeeze_65 : decode cX4_squeeze 65 = .ok (.iconst 1, 1) := by decide +kernel
theorem dX4_squeeze_66 : decode cX4_squeeze 66 = .ok (.goto 4, 3) := by decide +kernel
theorem dX4_squeeze_69 : decode cX4_squeeze 69 = .ok (.iconst 0, 1) := by decide +kernel
theorem dX4_squeeze_70 : decode cX4_squeeze 70 = .ok (.putfield 42, 3) := by decide +kernel
theorem dX4_squeeze_73 : decode cX4_squeeze 73 = .ok (.iload_n 1, 1) := by decide +kernel
theorem dX4_squeeze_74 : decode cX4_squeeze 74 = .ok (.ifCond .eq 10, 3) := by decide +kernel
theorem dX4_squeeze_77 : decode cX4_squeeze 77 = .ok (.aload_n 0, 1) := by decide +kernel
theorem dX4_squeeze_78 : decode cX4_squeeze 78 = .ok (.getfield 120, 3) := by decide +kernel
theorem dX4_squeeze_81 : decode cX4_squeeze 81 = .ok (.goto 4, 3) := by decide +kernel
theorem dX4_squeeze_84 : decode cX4_squeeze 84 = .ok (.iconst (-1), 1) := by decide +kernel
theorem dX4_squeeze_85 : decode cX4_squeeze 85 = .ok (.ireturn, 1) := by decide +kernel
set_option maxRecDepth 20000 in
theorem ggX4_mount_X4_move : GoodIn wsX4_mount wsX4_move := goodIn_r _ [12, 13, 14, 4, 5, 15, 16, 17, 18, 19, 20, 21, 11, 22, 23, 24, 25, 26, 27, 3, 1, 28, 6, 29, 30, 31, 32, 33, 34, 35, 36, 37, 38, 39, 40, 41, 62, 63, 64, 65, 66, 67, 68, 69, 70, 71, 72, 73, 74, 75, 76, 77, 78, 79, 80, 81] (by decide +kernel) (by decide +kernel)
set_option maxRecDepth 20000 in
theorem gX4_mount_X4_move : GoodIn wsX4_mount (wsV RX4 126 RX4 yX4_move wsX4_move) := goodIn_app (goodIn_of _ (by decide +kernel)) ggX4_mount_X4_move
set_option maxRecDepth 20000 in
theorem ggX4_mount_X4_moveAll : GoodIn wsX4_mount wsX4_moveAll := goodIn_r _ [45, 46, 47, 48, 11, 49, 13, 23, 16, 14, 50, 51, 52, 53, 8, 9, 10, 12, 4, 5, 15, 17, 18, 19, 20, 21, 22, 24, 25, 26, 27, 3, 1, 28, 6, 29, 30, 31, 32, 33, 34, 35, 36, 37, 38, 39, 40, 41, 62, 63, 64, 65, 66, 67, 68, 69, 70, 71, 72, 73, 74, 75, 76, 77, 78, 79, 80, 81] (by decide +kernel) (by decide +kernel)
set_option maxRecDepth 20000 in
theorem gX4_mount_X4_moveAll : GoodIn wsX4_mount (wsV RX4 130 RX4 yX4_moveAll wsX4_moveAll) := goodIn_app (goodIn_of _ (by decide +kernel)) ggX4_mount_X4_moveAll
set_option maxRecDepth 20000 in
theorem ggX4_mount_X4_howMany : GoodIn wsX4_mount wsX4_howMany := goodIn_r _ [57, 7, 62, 63, 64, 65, 66, 67, 68, 69, 70, 71, 72, 73, 74, 75, 76, 77, 78, 79, 80, 81] (by decide +kernel) (by decide +kernel)
set_option maxRecDepth 20000 in
theorem gX4_mount_X4_howMany : GoodIn wsX4_mount (wsV RX4 70 RX4 yX4_howMany wsX4_howMany) := goodIn_app (goodIn_of _ (by decide +kernel)) ggX4_mount_X4_howMany
set_option maxRecDepth 20000 in
theorem ggX4_mount_X4_lay : GoodIn wsX4_mount wsX4_lay := goodIn_r _ [33, 18, 23, 62, 63, 64, 65, 66, 67, 68, 69, 70, 71, 72, 73, 74, 75, 76, 77, 78, 79, 80, 81] (by decide +kernel) (by decide +kernel)
set_option maxRecDepth 20000 in
theorem gX4_mount_X4_lay : GoodIn wsX4_mount (wsV RX4 80 RX4 yX4_lay wsX4_lay) := goodIn_app (goodIn_of _ (by decide +kernel)) ggX4_mount_X4_lay
set_option maxRecDepth 20000 in
theorem ggX4_mount_X4_giveUp : GoodIn wsX4_mount wsX4_giveUp := goodIn_r _ [61, 23, 18, 62, 63, 64, 65, 66, 67, 68, 69, 70, 71, 72, 73, 74, 75, 76, 77, 78, 79, 80, 81] (by decide +kernel) (by decide +kernel)
set_option maxRecDepth 20000 in
theorem gX4_mount_X4_giveUp : GoodIn wsX4_mount (wsV RX4 98 RX4 yX4_giveUp wsX4_giveUp) := goodIn_app (goodIn_of _ (by decide +kernel)) ggX4_mount_X4_giveUp
set_option maxRecDepth 20000 in
theorem ggX4_mount_X4_change : GoodIn wsX4_mount wsX4_change := goodIn_r _ [37, 23, 18, 38, 39, 40, 11, 41, 24, 25, 26, 27, 3, 1, 28, 6, 29, 62, 63, 64, 65, 66, 67, 68, 69, 70, 71, 72, 73, 74, 75, 76, 77, 78, 79, 80, 81] (by decide +kernel) (by decide +kernel)
set_option maxRecDepth 20000 in
theorem gX4_mount_X4_change : GoodIn wsX4_mount (wsV RX4 83 RX4 yX4_change wsX4_change) := goodIn_app (goodIn_of _ (by decide +kernel)) ggX4_mount_X4_change
theorem dX4_mount_0 : decode cX4_mount 0 = .ok (.aload_n 0, 1) := by decide +kernel
theorem dX4_mount_1 : decode cX4_mount 1 = .ok (.aload_n 0, 1) := by decide +kernel
theorem dX4_mount_2 : decode cX4_mount 2 = .ok (.getfield 7, 3) := by decide +kernel
theorem dX4_mount_5 : decode cX4_mount 5 = .ok (.ifCond .eq 7, 3) := by decide +kernel
theorem dX4_mount_8 : decode cX4_mount 8 = .ok (.iconst 1, 1) := by decide +kernel
theorem dX4_mount_9 : decode cX4_mount 9 = .ok (.goto 4, 3) := by decide +kernel
theorem dX4_mount_12 : decode cX4_mount 12 = .ok (.iconst 0, 1) := by decide +kernel
theorem dX4_mount_13 : decode cX4_mount 13 = .ok (.putfield 36, 3) := by decide +kernel
theorem dX4_mount_16 : decode cX4_mount 16 = .ok (.aload_n 0, 1) := by decide +kernel
theorem dX4_mount_17 : decode cX4_mount 17 = .ok (.getfield 36, 3) := by decide +kernel
theorem dX4_mount_20 : decode cX4_mount 20 = .ok (.ifCond .le 5, 3) := by decide +kernel
theorem dX4_mount_23 : decode cX4_mount 23 = .ok (.iconst 0, 1) := by decide +kernel
theorem dX4_mount_24 : decode cX4_mount 24 = .ok (.ireturn, 1) := by decide +kernel
theorem dX4_mount_25 : decode cX4_mount 25 = .ok (.aload_n 0, 1) := by decide +kernel
theorem dX4_mount_26 : decode cX4_mount 26 = .ok (.iconst 1, 1) := by decide +kernel
theorem dX4_mount_27 : decode cX4_mount 27 = .ok (.putfield 7, 3) := by decide +kernel
theorem dX4_mount_30 : decode cX4_mount 30 = .ok (.aload_n 0, 1) := by decide +kernel
theorem dX4_mount_31 : decode cX4_mount 31 = .ok (.iconst (-1), 1) := by decide +kernel
theorem dX4_mount_32 : decode cX4_mount 32 = .ok (.putfield 13, 3) := by decide +kernel
theorem dX4_mount_35 : decode cX4_mount 35 = .ok (.aload_n 0, 1) := by decide +kernel
theorem dX4_mount_36 : decode cX4_mount 36 = .ok (.getfield 114, 3) := by decide +kernel
theorem dX4_mount_39 : decode cX4_mount 39 = .ok (.ifCond .eq 13, 3) := by decide +kernel
theorem dX4_mount_42 : decode cX4_mount 42 = .ok (.aload_n 0, 1) := by decide +kernel
theorem dX4_mount_43 : decode cX4_mount 43 = .ok (.aload_n 0, 1) := by decide +kernel
theorem dX4_mount_44 : decode cX4_mount 44 = .ok (.getfield 117, 3) := by decide +kernel
theorem dX4_mount_47 : decode cX4_mount 47 = .ok (.iconst 1, 1) := by decide +kernel
theorem dX4_mount_48 : decode cX4_mount 48 = .ok (.invokevirtual 126, 3) := by decide +kernel
theorem dX4_mount_51 : decode cX4_mount 51 = .ok (.istore_n 1, 1) := by decide +kernel
theorem dX4_mount_52 : decode cX4_mount 52 = .ok (.aload_n 0, 1) := by decide +kernel
theorem dX4_mount_53 : decode cX4_mount 53 = .ok (.getfield 42, 3) := by decide +kernel
theorem dX4_mount_56 : decode cX4_mount 56 = .ok (.ifCond .eq 8, 3) := by decide +kernel
theorem dX4_mount_59 : decode cX4_mount 59 = .ok (.aload_n 0, 1) := by decide +kernel
theorem dX4_mount_60 : decode cX4_mount 60 = .ok (.invokevirtual 130, 3) := by decide +kernel
theorem dX4_mount_63 : decode cX4_mount 63 = .ok (.istore_n 1, 1) := by decide +kernel
theorem dX4_mount_64 : decode cX4_mount 64 = .ok (.aload_n 0, 1) := by decide +kernel
theorem dX4_mount_65 : decode cX4_mount 65 = .ok (.iconst 0, 1) := by decide +kernel
theorem dX4_mount_66 : decode cX4_mount 66 = .ok (.putfield 42, 3) := by decide +kernel
theorem dX4_mount_69 : decode cX4_mount 69 = .ok (.aload_n 0, 1) := by decide +kernel
theorem dX4_mount_70 : decode cX4_mount 70 = .ok (.iconst 1, 1) := by decide +kernel
theorem dX4_mount_71 : decode cX4_mount 71 = .ok (.invokevirtual 70, 3) := by decide +kernel
theorem dX4_mount_74 : decode cX4_mount 74 = .ok (.ifCond .le 82, 3) := by decide +kernel
theorem dX4_mount_77 : decode cX4_mount 77 = .ok (.aload_n 0, 1) := by decide +kernel
theorem dX4_mount_78 : decode cX4_mount 78 = .ok (.invokevirtual 80, 3) := by decide +kernel
theorem dX4_mount_81 : decode cX4_mount 81 = .ok (.iconst 1, 1) := by decide +kernel
theorem dX4_mount_82 : decode cX4_mount 82 = .ok (.istore_n 1, 1) := by decide +kernel
theorem dX4_mount_83 : decode cX4_mount 83 = .ok (.iload_n 1, 1) := by decide +kernel
theorem dX4_mount_84 : decode cX4_mount 84 = .ok (.bipush 17, 2) := by decide +kernel
theorem dX4_mount_86 : decode cX4_mount 86 = .ok (.if_icmp .ge 25, 3) := by decide +kernel
theorem dX4_mount_89 : decode cX4_mount 89 = .ok (.aload_n 0, 1) := by decide +kernel
theorem dX4_mount_90 : decode cX4_mount 90 = .ok (.getfield 27, 3) := by decide +kernel
theorem dX4_mount_93 : decode cX4_mount 93 = .ok (.iload_n 1, 1) := by decide +kernel
theorem dX4_mount_94 : decode cX4_mount 94 = .ok (.iaload, 1) := by decide +kernel
theorem dX4_mount_95 : decode cX4_mount 95 = .ok (.iconst 1, 1) := by decide +kernel
theorem dX4_mount_96 : decode cX4_mount 96 = .ok (.if_icmp .ne 9, 3) := by decide +kernel
theorem dX4_mount_99 : decode cX4_mount 99 = .ok (.aload_n 0, 1) := by decide +kernel
theorem dX4_mount_100 : decode cX4_mount 100 = .ok (.iload_n 1, 1) := by decide +kernel
theorem dX4_mount_101 : decode cX4_mount 101 = .ok (.iconst 0, 1) := by decide +kernel
theorem dX4_mount_102 : decode cX4_mount 102 = .ok (.invokevirtual 98, 3) := by decide +kernel
theorem dX4_mount_105 : decode cX4_mount 105 = .ok (.iinc 1 1, 3) := by decide +kernel
theorem dX4_mount_108 : decode cX4_mount 108 = .ok (.goto (-25), 3) := by decide +kernel
theorem dX4_mount_111 : decode cX4_mount 111 = .ok (.aload_n 0, 1) := by decide +kernel
theorem dX4_mount_112 : decode cX4_mount 112 = .ok (.invokevirtual 83, 3) := by decide +kernel
theorem dX4_mount_115 : decode cX4_mount 115 = .ok (.istore_n 1, 1) := by decide +kernel
theorem dX4_mount_116 : decode cX4_mount 116 = .ok (.iconst 1, 1) := by decide +kernel
theorem dX4_mount_117 : decode cX4_mount 117 = .ok (.istore_n 2, 1) := by decide +kernel
theorem dX4_mount_118 : decode cX4_mount 118 = .ok (.iload_n 2, 1) := by decide +kernel
theorem dX4_mount_119 : decode cX4_mount 119 = .ok (.bipush 17, 2) := by decide +kernel
theorem dX4_mount_121 : decode cX4_mount 121 = .ok (.if_icmp .ge 35, 3) := by decide +kernel
theorem dX4_mount_124 : decode cX4_mount 124 = .ok (.aload_n 0, 1) := by decide +kernel
theorem dX4_mount_125 : decode cX4_mount 125 = .ok (.getfield 27, 3) := by decide +kernel
theorem dX4_mount_128 : decode cX4_mount 128 = .ok (.iload_n 2, 1) := by decide +kernel
theorem dX4_mount_129 : decode cX4_mount 129 = .ok (.aload_n 0, 1) := by decide +kernel
theorem dX4_mount_130 : decode cX4_mount 130 = .ok (.getfield 27, 3) := by decide +kernel
theorem dX4_mount_133 : decode cX4_mount 133 = .ok (.iload_n 2, 1) := by decide +kernel
theorem dX4_mount_134 : decode cX4_mount 134 = .ok (.iaload, 1) := by decide +kernel
theorem dX4_mount_135 : decode cX4_mount 135 = .ok (.iconst 1, 1) := by decide +kernel
theorem dX4_mount_136 : decode cX4_mount 136 = .ok (.if_icmp .ne 7, 3) := by decide +kernel
theorem dX4_mount_139 : decode cX4_mount 139 = .ok (.iconst 0, 1) := by decide +kernel
theorem dX4_mount_140 : decode cX4_mount 140 = .ok (.goto 9, 3) := by decide +kernel
theorem dX4_mount_143 : decode cX4_mount 143 = .ok (.aload_n 0, 1) := by decide +kernel
theorem dX4_mount_144 : decode cX4_mount 144 = .ok (.getfield 27, 3) := by decide +kernel
theorem dX4_mount_147 : decode cX4_mount 147 = .ok (.iload_n 2, 1) := by decide +kernel
theorem dX4_mount_148 : decode cX4_mount 148 = .ok (.iaload, 1) := by decide +kernel
theorem dX4_mount_149 : decode cX4_mount 149 = .ok (.iastore, 1) := by decide +kernel
theorem dX4_mount_150 : decode cX4_mount 150 = .ok (.iinc 2 1, 3) := by decide +kernel
theorem dX4_mount_153 : decode cX4_mount 153 = .ok (.goto (-35), 3) := by decide +kernel
theorem dX4_mount_156 : decode cX4_mount 156 = .ok (.aload_n 0, 1) := by decide +kernel
theorem dX4_mount_157 : decode cX4_mount 157 = .ok (.iconst 2, 1) := by decide +kernel
theorem dX4_mount_158 : decode cX4_mount 158 = .ok (.invokevirtual 70, 3) := by decide +kernel
theorem dX4_mount_161 : decode cX4_mount 161 = .ok (.ireturn, 1) := by decide +kernel
theorem dX4_cutAfter_0 : decode cX4_cutAfter 0 = .ok (.aload_n 0, 1) := by decide +kernel
theorem dX4_cutAfter_1 : decode cX4_cutAfter 1 = .ok (.aload_n 0, 1) := by decide +kernel
theorem dX4_cutAfter_2 : decode cX4_cutAfter 2 = .ok (.getfield 7, 3) := by decide +kernel
theorem dX4_cutAfter_5 : decode cX4_cutAfter 5 = .ok (.ifCond .ne 7, 3) := by decide +kernel
theorem dX4_cutAfter_8 : decode cX4_cutAfter 8 = .ok (.iconst 1, 1) := by decide +kernel
theorem dX4_cutAfter_9 : decode cX4_cutAfter 9 = .ok (.goto 13, 3) := by decide +kernel
theorem dX4_cutAfter_12 : decode cX4_cutAfter 12 = .ok (.iload_n 1, 1) := by decide +kernel
theorem dX4_cutAfter_13 : decode cX4_cutAfter 13 = .ok (.iconst (-1), 1) := by decide +kernel
theorem dX4_cutAfter_14 : decode cX4_cutAfter 14 = .ok (.if_icmp .ge 7, 3) := by decide +kernel
theorem dX4_cutAfter_17 : decode cX4_cutAfter 17 = .ok (.iconst 2, 1) := by decide +kernel
theorem dX4_cutAfter_18 : decode cX4_cutAfter 18 = .ok (.goto 4, 3) := by decide +kernel
theorem dX4_cutAfter_21 : decode cX4_cutAfter 21 = .ok (.iconst 0, 1) := by decide +kernel
theorem dX4_cutAfter_22 : decode cX4_cutAfter 22 = .ok (.putfield 36, 3) := by decide +kernel
theorem dX4_cutAfter_25 : decode cX4_cutAfter 25 = .ok (.aload_n 0, 1) := by decide +kernel
theorem dX4_cutAfter_26 : decode cX4_cutAfter 26 = .ok (.getfield 36, 3) := by decide +kernel
theorem dX4_cutAfter_29 : decode cX4_cutAfter 29 = .ok (.ifCond .ne 8, 3) := by decide +kernel
theorem dX4_cutAfter_32 : decode cX4_cutAfter 32 = .ok (.aload_n 0, 1) := by decide +kernel
theorem dX4_cutAfter_33 : decode cX4_cutAfter 33 = .ok (.iload_n 1, 1) := by decide +kernel
theorem dX4_cutAfter_34 : decode cX4_cutAfter 34 = .ok (.putfield 13, 3) := by decide +kernel
theorem dX4_cutAfter_37 : decode cX4_cutAfter 37 = .ok (.return_, 1) := by decide +kernel
set_option maxRecDepth 20000 in
theorem ggX4_run_X4_runFrom : GoodIn wsX4_run wsX4_runFrom := goodIn_r _ [7, 8, 9, 10, 11, 12, 13, 14, 15, 16, 17, 18, 19, 20, 21, 22, 23, 24, 25, 26, 27, 28] (by decide +kernel) (by decide +kernel)
set_option maxRecDepth 20000 in
theorem gX4_run_X4_runFrom : GoodIn wsX4_run (wsV RX4 59 RX4 yX4_runFrom wsX4_runFrom) := goodIn_app (goodIn_of _ (by decide +kernel)) ggX4_run_X4_runFrom
theorem dX4_run_0 : decode cX4_run 0 = .ok (.iconst 0, 1) := by decide +kernel
theorem dX4_run_1 : decode cX4_run 1 = .ok (.istore_n 2, 1) := by decide +kernel
theorem dX4_run_2 : decode cX4_run 2 = .ok (.iconst 0, 1) := by decide +kernel
theorem dX4_run_3 : decode cX4_run 3 = .ok (.istore_n 3, 1) := by decide +kernel
theorem dX4_run_4 : decode cX4_run 4 = .ok (.iload_n 3, 1) := by decide +kernel
theorem dX4_run_5 : decode cX4_run 5 = .ok (.iload_n 1, 1) := by decide +kernel
theorem dX4_run_6 : decode cX4_run 6 = .ok (.if_icmp .ge 23, 3) := by decide +kernel
theorem dX4_run_9 : decode cX4_run 9 = .ok (.iload_n 2, 1) := by decide +kernel
theorem dX4_run_10 : decode cX4_run 10 = .ok (.bipush 48, 2) := by decide +kernel
theorem dX4_run_12 : decode cX4_run 12 = .ok (.if_icmp .ge 17, 3) := by decide +kernel
theorem dX4_run_15 : decode cX4_run 15 = .ok (.iload_n 2, 1) := by decide +kernel
theorem dX4_run_16 : decode cX4_run 16 = .ok (.aload_n 0, 1) := by decide +kernel
theorem dX4_run_17 : decode cX4_run 17 = .ok (.iload_n 2, 1) := by decide +kernel
theorem dX4_run_18 : decode cX4_run 18 = .ok (.invokevirtual 59, 3) := by decide +kernel
theorem dX4_run_21 : decode cX4_run 21 = .ok (.iadd, 1) := by decide +kernel
theorem dX4_run_22 : decode cX4_run 22 = .ok (.istore_n 2, 1) := by decide +kernel
theorem dX4_run_23 : decode cX4_run 23 = .ok (.iinc 3 1, 3) := by decide +kernel
theorem dX4_run_26 : decode cX4_run 26 = .ok (.goto (-22), 3) := by decide +kernel
theorem dX4_run_29 : decode cX4_run 29 = .ok (.aload_n 0, 1) := by decide +kernel
theorem dX4_run_30 : decode cX4_run 30 = .ok (.iload_n 2, 1) := by decide +kernel
theorem dX4_run_31 : decode cX4_run 31 = .ok (.putfield 63, 3) := by decide +kernel
theorem dX4_run_34 : decode cX4_run 34 = .ok (.aload_n 0, 1) := by decide +kernel
theorem dX4_run_35 : decode cX4_run 35 = .ok (.iload_n 2, 1) := by decide +kernel
theorem dX4_run_36 : decode cX4_run 36 = .ok (.bipush 48, 2) := by decide +kernel
theorem dX4_run_38 : decode cX4_run 38 = .ok (.if_icmp .ge 11, 3) := by decide +kernel
theorem dX4_run_41 : decode cX4_run 41 = .ok (.aload_n 0, 1) := by decide +kernel
theorem dX4_run_42 : decode cX4_run 42 = .ok (.iload_n 2, 1) := by decide +kernel
theorem dX4_run_43 : decode cX4_run 43 = .ok (.invokevirtual 59, 3) := by decide +kernel
theorem dX4_run_46 : decode cX4_run 46 = .ok (.goto 4, 3) := by decide +kernel
theorem dX4_run_49 : decode cX4_run 49 = .ok (.iconst 0, 1) := by decide +kernel
theorem dX4_run_50 : decode cX4_run 50 = .ok (.putfield 56, 3) := by decide +kernel
theorem dX4_run_53 : decode cX4_run 53 = .ok (.iload_n 2, 1) := by decide +kernel
theorem dX4_run_54 : decode cX4_run 54 = .ok (.bipush 48, 2) := by decide +kernel
theorem dX4_run_56 : decode cX4_run 56 = .ok (.if_icmp .ge 7, 3) := by decide +kernel
theorem dX4_run_59 : decode cX4_run 59 = .ok (.iconst 1, 1) := by decide +kernel
theorem dX4_run_60 : decode cX4_run 60 = .ok (.goto 4, 3) := by decide +kernel
theorem dX4_run_63 : decode cX4_run 63 = .ok (.iconst 0, 1) := by decide +kernel
theorem dX4_run_64 : decode cX4_run 64 = .ok (.ireturn, 1) := by decide +kernel
set_option maxRecDepth 20000 in
theorem ggX4_entry_X4_run : GoodIn wsX4_entry wsX4_run := goodIn_r _ [12, 4, 6, 13, 14, 15, 11, 16, 3, 17, 18, 19, 20, 21, 22, 23, 24, 25, 26, 27, 28, 29, 30, 31, 32, 33, 34, 35, 36] (by decide +kernel) (by decide +kernel)
set_option maxRecDepth 20000 in
theorem gX4_entry_X4_run : GoodIn wsX4_entry (wsV RX4 133 RX4 yX4_run wsX4_run) := goodIn_app (goodIn_of _ (by decide +kernel)) ggX4_entry_X4_run
theorem dX4_entry_0 : decode cX4_entry 0 = .ok (.aload_n 0, 1) := by decide +kernel
theorem dX4_entry_1 : decode cX4_entry 1 = .ok (.aload_n 0, 1) := by decide +kernel
theorem dX4_entry_2 : decode cX4_entry 2 = .ok (.getfield 7, 3) := by decide +kernel
theorem dX4_entry_5 : decode cX4_entry 5 = .ok (.ifCond .ne 7, 3) := by decide +kernel
theorem dX4_entry_8 : decode cX4_entry 8 = .ok (.iconst 1, 1) := by decide +kernel
theorem dX4_entry_9 : decode cX4_entry 9 = .ok (.goto 39, 3) := by decide +kernel
theorem dX4_entry_12 : decode cX4_entry 12 = .ok (.iload_n 2, 1) := by decide +kernel
theorem dX4_entry_13 : decode cX4_entry 13 = .ok (.ifCond .lt 8, 3) := by decide +kernel
theorem dX4_entry_16 : decode cX4_entry 16 = .ok (.iload_n 2, 1) := by decide +kernel
theorem dX4_entry_17 : decode cX4_entry 17 = .ok (.iconst 3, 1) := by decide +kernel
theorem dX4_entry_18 : decode cX4_entry 18 = .ok (.if_icmp .le 7, 3) := by decide +kernel
theorem dX4_entry_21 : decode cX4_entry 21 = .ok (.iconst 2, 1) := by decide +kernel
theorem dX4_entry_22 : decode cX4_entry 22 = .ok (.goto 26, 3) := by decide +kernel
theorem dX4_entry_25 : decode cX4_entry 25 = .ok (.iload_n 1, 1) := by decide +kernel
theorem dX4_entry_26 : decode cX4_entry 26 = .ok (.ifCond .lt 17, 3) := by decide +kernel
theorem dX4_entry_29 : decode cX4_entry 29 = .ok (.iload_n 1, 1) := by decide +kernel
theorem dX4_entry_30 : decode cX4_entry 30 = .ok (.bipush 48, 2) := by decide +kernel
theorem dX4_entry_32 : decode cX4_entry 32 = .ok (.if_icmp .gt 11, 3) := by decide +kernel
theorem dX4_entry_35 : decode cX4_entry 35 = .ok (.aload_n 0, 1) := by decide +kernel
theorem dX4_entry_36 : decode cX4_entry 36 = .ok (.iload_n 1, 1) := by decide +kernel
theorem dX4_entry_37 : decode cX4_entry 37 = .ok (.invokevirtual 133, 3) := by decide +kernel
theorem dX4_entry_40 : decode cX4_entry 40 = .ok (.ifCond .ne 7, 3) := by decide +kernel
theorem dX4_entry_43 : decode cX4_entry 43 = .ok (.iconst 3, 1) := by decide +kernel
theorem dX4_entry_44 : decode cX4_entry 44 = .ok (.goto 4, 3) := by decide +kernel
theorem dX4_entry_47 : decode cX4_entry 47 = .ok (.iconst 0, 1) := by decide +kernel
theorem dX4_entry_48 : decode cX4_entry 48 = .ok (.putfield 36, 3) := by decide +kernel
theorem dX4_entry_51 : decode cX4_entry 51 = .ok (.aload_n 0, 1) := by decide +kernel
theorem dX4_entry_52 : decode cX4_entry 52 = .ok (.getfield 36, 3) := by decide +kernel
theorem dX4_entry_55 : decode cX4_entry 55 = .ok (.ifCond .le 5, 3) := by decide +kernel
theorem dX4_entry_58 : decode cX4_entry 58 = .ok (.iconst 0, 1) := by decide +kernel
theorem dX4_entry_59 : decode cX4_entry 59 = .ok (.ireturn, 1) := by decide +kernel
theorem dX4_entry_60 : decode cX4_entry 60 = .ok (.aload_n 0, 1) := by decide +kernel
theorem dX4_entry_61 : decode cX4_entry 61 = .ok (.getfield 21, 3) := by decide +kernel
theorem dX4_entry_64 : decode cX4_entry 64 = .ok (.aload_n 0, 1) := by decide +kernel
theorem dX4_entry_65 : decode cX4_entry 65 = .ok (.getfield 63, 3) := by decide +kernel
theorem dX4_entry_68 : decode cX4_entry 68 = .ok (.iaload, 1) := by decide +kernel
theorem dX4_entry_69 : decode cX4_entry 69 = .ok (.istore_n 3, 1) := by decide +kernel
theorem dX4_entry_70 : decode cX4_entry 70 = .ok (.iload_n 2, 1) := by decide +kernel
theorem dX4_entry_71 : decode cX4_entry 71 = .ok (.tableswitch 50 0 2 #[25, 40, 45], 25) := by decide +kernel
theorem dX4_entry_96 : decode cX4_entry 96 = .ok (.iload_n 3, 1) := by decide +kernel
theorem dX4_entry_97 : decode cX4_entry 97 = .ok (.ifCond .ne 7, 3) := by decide +kernel
theorem dX4_entry_100 : decode cX4_entry 100 = .ok (.iconst 0, 1) := by decide +kernel
theorem dX4_entry_101 : decode cX4_entry 101 = .ok (.goto 9, 3) := by decide +kernel
theorem dX4_entry_104 : decode cX4_entry 104 = .ok (.aload_n 0, 1) := by decide +kernel
theorem dX4_entry_105 : decode cX4_entry 105 = .ok (.getfield 27, 3) := by decide +kernel
theorem dX4_entry_108 : decode cX4_entry 108 = .ok (.iload_n 3, 1) := by decide +kernel
theorem dX4_entry_109 : decode cX4_entry 109 = .ok (.iaload, 1) := by decide +kernel
theorem dX4_entry_110 : decode cX4_entry 110 = .ok (.ireturn, 1) := by decide +kernel
theorem dX4_entry_111 : decode cX4_entry 111 = .ok (.aload_n 0, 1) := by decide +kernel
theorem dX4_entry_112 : decode cX4_entry 112 = .ok (.getfield 63, 3) := by decide +kernel
theorem dX4_entry_115 : decode cX4_entry 115 = .ok (.ireturn, 1) := by decide +kernel
theorem dX4_entry_116 : decode cX4_entry 116 = .ok (.aload_n 0, 1) := by decide +kernel
theorem dX4_entry_117 : decode cX4_entry 117 = .ok (.getfield 56, 3) := by decide +kernel
theorem dX4_entry_120 : decode cX4_entry 120 = .ok (.ireturn, 1) := by decide +kernel
theorem dX4_entry_121 : decode cX4_entry 121 = .ok (.iload_n 3, 1) := by decide +kernel
theorem dX4_entry_122 : decode cX4_entry 122 = .ok (.ifCond .ne 7, 3) := by decide +kernel
theorem dX4_entry_125 : decode cX4_entry 125 = .ok (.iconst 0, 1) := by decide +kernel
theorem dX4_entry_126 : decode cX4_entry 126 = .ok (.goto 9, 3) := by decide +kernel
theorem dX4_entry_129 : decode cX4_entry 129 = .ok (.aload_n 0, 1) := by decide +kernel
theorem dX4_entry_130 : decode cX4_entry 130 = .ok (.getfield 30, 3) := by decide +kernel
theorem dX4_entry_133 : decode cX4_entry 133 = .ok (.iload_n 3, 1) := by decide +kernel
theorem dX4_entry_134 : decode cX4_entry 134 = .ok (.iaload, 1) := by decide +kernel
theorem dX4_entry_135 : decode cX4_entry 135 = .ok (.ireturn, 1) := by decide +kernel
set_option maxRecDepth 20000 in
theorem ggX4_entries_X4_runsNow : GoodIn wsX4_entries wsX4_runsNow := goodIn_r _ [7, 8, 9, 10, 11, 12, 13, 14, 15, 16, 17, 18, 19, 20, 21, 22, 23, 24, 25, 26, 27, 28] (by decide +kernel) (by decide +kernel)
set_option maxRecDepth 20000 in
theorem gX4_entries_X4_runsNow : GoodIn wsX4_entries (wsV RX4 136 RX4 yX4_runsNow wsX4_runsNow) := goodIn_app (goodIn_of _ (by decide +kernel)) ggX4_entries_X4_runsNow
theorem dX4_entries_0 : decode cX4_entries 0 = .ok (.aload_n 0, 1) := by decide +kernel
theorem dX4_entries_1 : decode cX4_entries 1 = .ok (.aload_n 0, 1) := by decide +kernel
theorem dX4_entries_2 : decode cX4_entries 2 = .ok (.getfield 7, 3) := by decide +kernel
theorem dX4_entries_5 : decode cX4_entries 5 = .ok (.ifCond .eq 7, 3) := by decide +kernel
theorem dX4_entries_8 : decode cX4_entries 8 = .ok (.iconst 0, 1) := by decide +kernel
theorem dX4_entries_9 : decode cX4_entries 9 = .ok (.goto 4, 3) := by decide +kernel
theorem dX4_entries_12 : decode cX4_entries 12 = .ok (.iconst 1, 1) := by decide +kernel
theorem dX4_entries_13 : decode cX4_entries 13 = .ok (.putfield 36, 3) := by decide +kernel
theorem dX4_entries_16 : decode cX4_entries 16 = .ok (.aload_n 0, 1) := by decide +kernel
theorem dX4_entries_17 : decode cX4_entries 17 = .ok (.getfield 36, 3) := by decide +kernel
theorem dX4_entries_20 : decode cX4_entries 20 = .ok (.ifCond .le 7, 3) := by decide +kernel
theorem dX4_entries_23 : decode cX4_entries 23 = .ok (.iconst 0, 1) := by decide +kernel
theorem dX4_entries_24 : decode cX4_entries 24 = .ok (.goto 7, 3) := by decide +kernel
theorem dX4_entries_27 : decode cX4_entries 27 = .ok (.aload_n 0, 1) := by decide +kernel
theorem dX4_entries_28 : decode cX4_entries 28 = .ok (.invokevirtual 136, 3) := by decide +kernel
theorem dX4_entries_31 : decode cX4_entries 31 = .ok (.ireturn, 1) := by decide +kernel
set_option maxRecDepth 20000 in
theorem ggX4_free_X4_longest : GoodIn wsX4_free wsX4_longest := goodIn_r _ [7, 8, 9, 10, 11, 6, 12, 17, 18, 19, 20, 21, 22, 23, 24, 25, 26, 27, 28, 29, 30, 31, 32, 33, 34, 35, 36] (by decide +kernel) (by decide +kernel)
set_option maxRecDepth 20000 in
theorem gX4_free_X4_longest : GoodIn wsX4_free (wsV RX4 73 RX4 yX4_longest wsX4_longest) := goodIn_app (goodIn_of _ (by decide +kernel)) ggX4_free_X4_longest
set_option maxRecDepth 20000 in
theorem ggX4_free_X4_lengthOf : GoodIn wsX4_free wsX4_lengthOf := goodIn_r _ [16, 8, 17, 18, 19, 20, 21, 22, 23, 24, 25, 26, 27, 28, 29, 30, 31, 32, 33, 34, 35, 36] (by decide +kernel) (by decide +kernel)
set_option maxRecDepth 20000 in
theorem gX4_free_X4_lengthOf : GoodIn wsX4_free (wsV RX4 89 RX4 yX4_lengthOf wsX4_lengthOf) := goodIn_app (goodIn_of _ (by decide +kernel)) ggX4_free_X4_lengthOf
theorem dX4_free_0 : decode cX4_free 0 = .ok (.aload_n 0, 1) := by decide +kernel
theorem dX4_free_1 : decode cX4_free 1 = .ok (.aload_n 0, 1) := by decide +kernel
theorem dX4_free_2 : decode cX4_free 2 = .ok (.getfield 7, 3) := by decide +kernel
theorem dX4_free_5 : decode cX4_free 5 = .ok (.ifCond .eq 7, 3) := by decide +kernel
theorem dX4_free_8 : decode cX4_free 8 = .ok (.iconst 0, 1) := by decide +kernel
theorem dX4_free_9 : decode cX4_free 9 = .ok (.goto 4, 3) := by decide +kernel
theorem dX4_free_12 : decode cX4_free 12 = .ok (.iconst 1, 1) := by decide +kernel
theorem dX4_free_13 : decode cX4_free 13 = .ok (.putfield 36, 3) := by decide +kernel
theorem dX4_free_16 : decode cX4_free 16 = .ok (.aload_n 0, 1) := by decide +kernel
theorem dX4_free_17 : decode cX4_free 17 = .ok (.getfield 36, 3) := by decide +kernel
theorem dX4_free_20 : decode cX4_free 20 = .ok (.ifCond .le 7, 3) := by decide +kernel
theorem dX4_free_23 : decode cX4_free 23 = .ok (.iconst 0, 1) := by decide +kernel
theorem dX4_free_24 : decode cX4_free 24 = .ok (.goto 20, 3) := by decide +kernel
theorem dX4_free_27 : decode cX4_free 27 = .ok (.iload_n 1, 1) := by decide +kernel
theorem dX4_free_28 : decode cX4_free 28 = .ok (.ifCond .eq 11, 3) := by decide +kernel
theorem dX4_free_31 : decode cX4_free 31 = .ok (.aload_n 0, 1) := by decide +kernel
theorem dX4_free_32 : decode cX4_free 32 = .ok (.iconst 0, 1) := by decide +kernel
theorem dX4_free_33 : decode cX4_free 33 = .ok (.invokevirtual 73, 3) := by decide +kernel
theorem dX4_free_36 : decode cX4_free 36 = .ok (.goto 8, 3) := by decide +kernel
theorem dX4_free_39 : decode cX4_free 39 = .ok (.aload_n 0, 1) := by decide +kernel
theorem dX4_free_40 : decode cX4_free 40 = .ok (.iconst 0, 1) := by decide +kernel
theorem dX4_free_41 : decode cX4_free 41 = .ok (.invokevirtual 89, 3) := by decide +kernel
theorem dX4_free_44 : decode cX4_free 44 = .ok (.ireturn, 1) := by decide +kernel
set_option maxRecDepth 20000 in
theorem ggX4_handle_X4_byHandle : GoodIn wsX4_handle wsX4_byHandle := goodIn_r _ [8, 9, 10, 11, 12, 13, 14, 15, 16, 17, 18, 19, 20, 21, 22, 23, 24, 25, 26, 27, 28, 29, 30] (by decide +kernel) (by decide +kernel)
set_option maxRecDepth 20000 in
theorem gX4_handle_X4_byHandle : GoodIn wsX4_handle (wsV RX4 86 RX4 yX4_byHandle wsX4_byHandle) := goodIn_app (goodIn_of _ (by decide +kernel)) ggX4_handle_X4_byHandle
theorem dX4_handle_0 : decode cX4_handle 0 = .ok (.aload_n 0, 1) := by decide +kernel
theorem dX4_handle_1 : decode cX4_handle 1 = .ok (.aload_n 0, 1) := by decide +kernel
theorem dX4_handle_2 : decode cX4_handle 2 = .ok (.getfield 7, 3) := by decide +kernel
theorem dX4_handle_5 : decode cX4_handle 5 = .ok (.ifCond .eq 7, 3) := by decide +kernel
theorem dX4_handle_8 : decode cX4_handle 8 = .ok (.iconst 0, 1) := by decide +kernel
theorem dX4_handle_9 : decode cX4_handle 9 = .ok (.goto 4, 3) := by decide +kernel
theorem dX4_handle_12 : decode cX4_handle 12 = .ok (.iconst 1, 1) := by decide +kernel
theorem dX4_handle_13 : decode cX4_handle 13 = .ok (.putfield 36, 3) := by decide +kernel
theorem dX4_handle_16 : decode cX4_handle 16 = .ok (.iconst (-1), 1) := by decide +kernel
theorem dX4_handle_17 : decode cX4_handle 17 = .ok (.istore_n 2, 1) := by decide +kernel
theorem dX4_handle_18 : decode cX4_handle 18 = .ok (.iconst 3, 1) := by decide +kernel
theorem dX4_handle_19 : decode cX4_handle 19 = .ok (.istore_n 3, 1) := by decide +kernel
theorem dX4_handle_20 : decode cX4_handle 20 = .ok (.iload_n 3, 1) := by decide +kernel
theorem dX4_handle_21 : decode cX4_handle 21 = .ok (.ifCond .lt 45, 3) := by decide +kernel
theorem dX4_handle_24 : decode cX4_handle 24 = .ok (.aload_n 0, 1) := by decide +kernel
theorem dX4_handle_25 : decode cX4_handle 25 = .ok (.getfield 7, 3) := by decide +kernel
theorem dX4_handle_28 : decode cX4_handle 28 = .ok (.ifCond .eq 38, 3) := by decide +kernel
theorem dX4_handle_31 : decode cX4_handle 31 = .ok (.aload_n 0, 1) := by decide +kernel
theorem dX4_handle_32 : decode cX4_handle 32 = .ok (.iload_n 3, 1) := by decide +kernel
theorem dX4_handle_33 : decode cX4_handle 33 = .ok (.invokevirtual 86, 3) := by decide +kernel
theorem dX4_handle_36 : decode cX4_handle 36 = .ok (.istore 4, 2) := by decide +kernel
theorem dX4_handle_38 : decode cX4_handle 38 = .ok (.iload 4, 2) := by decide +kernel
theorem dX4_handle_40 : decode cX4_handle 40 = .ok (.ifCond .le 18, 3) := by decide +kernel
theorem dX4_handle_43 : decode cX4_handle 43 = .ok (.aload_n 0, 1) := by decide +kernel
theorem dX4_handle_44 : decode cX4_handle 44 = .ok (.getfield 30, 3) := by decide +kernel
theorem dX4_handle_47 : decode cX4_handle 47 = .ok (.iload 4, 2) := by decide +kernel
theorem dX4_handle_49 : decode cX4_handle 49 = .ok (.iaload, 1) := by decide +kernel
theorem dX4_handle_50 : decode cX4_handle 50 = .ok (.iload_n 1, 1) := by decide +kernel
theorem dX4_handle_51 : decode cX4_handle 51 = .ok (.if_icmp .ne 7, 3) := by decide +kernel
theorem dX4_handle_54 : decode cX4_handle 54 = .ok (.iload_n 3, 1) := by decide +kernel
theorem dX4_handle_55 : decode cX4_handle 55 = .ok (.goto 4, 3) := by decide +kernel
theorem dX4_handle_58 : decode cX4_handle 58 = .ok (.iload_n 2, 1) := by decide +kernel
theorem dX4_handle_59 : decode cX4_handle 59 = .ok (.istore_n 2, 1) := by decide +kernel
theorem dX4_handle_60 : decode cX4_handle 60 = .ok (.iinc 3 (-1), 3) := by decide +kernel
theorem dX4_handle_63 : decode cX4_handle 63 = .ok (.goto (-43), 3) := by decide +kernel
theorem dX4_handle_66 : decode cX4_handle 66 = .ok (.iload_n 2, 1) := by decide +kernel
theorem dX4_handle_67 : decode cX4_handle 67 = .ok (.ireturn, 1) := by decide +kernel
theorem dX4_writes_0 : decode cX4_writes 0 = .ok (.aload_n 0, 1) := by decide +kernel
theorem dX4_writes_1 : decode cX4_writes 1 = .ok (.iconst 0, 1) := by decide +kernel
theorem dX4_writes_2 : decode cX4_writes 2 = .ok (.putfield 36, 3) := by decide +kernel
theorem dX4_writes_5 : decode cX4_writes 5 = .ok (.aload_n 0, 1) := by decide +kernel
theorem dX4_writes_6 : decode cX4_writes 6 = .ok (.getfield 39, 3) := by decide +kernel
theorem dX4_writes_9 : decode cX4_writes 9 = .ok (.ireturn, 1) := by decide +kernel
theorem dX4_isOn_0 : decode cX4_isOn 0 = .ok (.aload_n 0, 1) := by decide +kernel
theorem dX4_isOn_1 : decode cX4_isOn 1 = .ok (.iconst 0, 1) := by decide +kernel
theorem dX4_isOn_2 : decode cX4_isOn 2 = .ok (.putfield 36, 3) := by decide +kernel
theorem dX4_isOn_5 : decode cX4_isOn 5 = .ok (.aload_n 0, 1) := by decide +kernel
theorem dX4_isOn_6 : decode cX4_isOn 6 = .ok (.getfield 7, 3) := by decide +kernel
theorem dX4_isOn_9 : decode cX4_isOn 9 = .ok (.ireturn, 1) := by decide +kernel
theorem dJ9_max_7cf53_0 : decode cJ9_max_7cf53 0 = .ok (.iload_n 0, 1) := by decide +kernel
theorem dJ9_max_7cf53_1 : decode cJ9_max_7cf53 1 = .ok (.iload_n 1, 1) := by decide +kernel
theorem dJ9_max_7cf53_2 : decode cJ9_max_7cf53 2 = .ok (.if_icmp .lt 7, 3) := by decide +kernel
theorem dJ9_max_7cf53_5 : decode cJ9_max_7cf53 5 = .ok (.iload_n 0, 1) := by decide +kernel
theorem dJ9_max_7cf53_6 : decode cJ9_max_7cf53 6 = .ok (.goto 4, 3) := by decide +kernel
theorem dJ9_max_7cf53_9 : decode cJ9_max_7cf53 9 = .ok (.iload_n 1, 1) := by decide +kernel
theorem dJ9_max_7cf53_10 : decode cJ9_max_7cf53 10 = .ok (.ireturn, 1) := by decide +kernel
theorem dJ9_min_7cf53_0 : decode cJ9_min_7cf53 0 = .ok (.iload_n 0, 1) := by decide +kernel
theorem dJ9_min_7cf53_1 : decode cJ9_min_7cf53 1 = .ok (.iload_n 1, 1) := by decide +kernel
theorem dJ9_min_7cf53_2 : decode cJ9_min_7cf53 2 = .ok (.if_icmp .gt 7, 3) := by decide +kernel
theorem dJ9_min_7cf53_5 : decode cJ9_min_7cf53 5 = .ok (.iload_n 0, 1) := by decide +kernel
theorem dJ9_min_7cf53_6 : decode cJ9_min_7cf53 6 = .ok (.goto 4, 3) := by decide +kernel
theorem dJ9_min_7cf53_9 : decode cJ9_min_7cf53 9 = .ok (.iload_n 1, 1) := by decide +kernel
theorem dJ9_min_7cf53_10 : decode cJ9_min_7cf53 10 = .ok (.ireturn, 1) := by decide +kernel
set_option maxRecDepth 20000 in
theorem ggL_enter_X3_enter : GoodIn wsL_enter wsX3_enter := goodIn_ca (goodIn_ca (goodIn_ca (goodIn_r _ [8, 9, 10, 11, 12, 13, 14, 15, 16, 17, 18, 7, 19, 20, 21, 22, 23, 24, 25, 26, 27, 28, 29, 30, 31, 32, 33, 34, 35, 36, 37, 38, 39, 40, 41, 42, 43, 44, 45, 46, 47, 48, 49, 50, 51, 52, 53, 54, 55, 56, 57, 58, 59, 60, 61, 62, 63, 64, 65, 66, 67, 68, 69, 70, 71, 72, 73, 74, 75, 76, 77, 78, 79, 80, 81, 82, 83, 84, 85, 86, 87, 88, 89, 90, 91, 92, 93, 94, 95, 96, 97, 98, 99, 100, 101, 102, 103, 104, 105, 106, 107, 108, 109, 110, 111, 112, 113, 114, 115, 116, 117, 118, 119, 120, 121, 122, 123, 124, 125, 126, 127, 128, 129, 130, 131, 132, 133, 134, 135, 136, 137, 138, 139, 140, 141, 142, 143, 144, 145, 146, 147, 148, 149, 150] (by decide +kernel) (by decide +kernel)) (goodIn_sub (fun _ h => List.mem_cons_of_mem _ (List.mem_append_left _ (List.mem_append_left _ (List.mem_append_right _ h)))) (by decide +kernel))) (goodIn_sub (fun _ h => List.mem_cons_of_mem _ (List.mem_append_left _ (List.mem_append_right _ h))) (by decide +kernel))) (goodIn_sub (fun _ h => List.mem_cons_of_mem _ (List.mem_append_right _ h)) (by decide +kernel))
set_option maxRecDepth 20000 in
theorem gL_enter_X3_enter : GoodIn wsL_enter (wsV RL 7 RX3 yX3_enter wsX3_enter) := goodIn_app (goodIn_of _ (by decide +kernel)) ggL_enter_X3_enter
theorem dL_enter_0 : decode cL_enter 0 = .ok (.aload_n 3, 1) := by decide +kernel
theorem dL_enter_1 : decode cL_enter 1 = .ok (.iconst 0, 1) := by decide +kernel
theorem dL_enter_2 : decode cL_enter 2 = .ok (.aload_n 0, 1) := by decide +kernel
theorem dL_enter_3 : decode cL_enter 3 = .ok (.iload_n 1, 1) := by decide +kernel
theorem dL_enter_4 : decode cL_enter 4 = .ok (.iload_n 2, 1) := by decide +kernel
theorem dL_enter_5 : decode cL_enter 5 = .ok (.invokevirtual 7, 3) := by decide +kernel
theorem dL_enter_8 : decode cL_enter 8 = .ok (.i2l, 1) := by decide +kernel
theorem dL_enter_9 : decode cL_enter 9 = .ok (.lastore, 1) := by decide +kernel
theorem dL_enter_10 : decode cL_enter 10 = .ok (.goto 15, 3) := by decide +kernel
theorem dL_enter_13 : decode cL_enter 13 = .ok (.astore 4, 2) := by decide +kernel
theorem dL_enter_15 : decode cL_enter 15 = .ok (.iconst 1, 1) := by decide +kernel
theorem dL_enter_16 : decode cL_enter 16 = .ok (.ireturn, 1) := by decide +kernel
theorem dL_enter_17 : decode cL_enter 17 = .ok (.astore 4, 2) := by decide +kernel
theorem dL_enter_19 : decode cL_enter 19 = .ok (.iconst 2, 1) := by decide +kernel
theorem dL_enter_20 : decode cL_enter 20 = .ok (.ireturn, 1) := by decide +kernel
theorem dL_enter_21 : decode cL_enter 21 = .ok (.astore 4, 2) := by decide +kernel
theorem dL_enter_23 : decode cL_enter 23 = .ok (.iconst 3, 1) := by decide +kernel
theorem dL_enter_24 : decode cL_enter 24 = .ok (.ireturn, 1) := by decide +kernel
theorem dL_enter_25 : decode cL_enter 25 = .ok (.iconst 0, 1) := by decide +kernel
theorem dL_enter_26 : decode cL_enter 26 = .ok (.ireturn, 1) := by decide +kernel
set_option maxRecDepth 20000 in
theorem ggL_put_X3_put : GoodIn wsL_put wsX3_put := goodIn_ca (goodIn_ca (goodIn_ca (goodIn_r _ [8, 9, 10, 11, 12, 7, 13, 14, 15, 16, 17, 18, 19, 20, 21, 22, 23, 24, 25, 26, 27, 28, 29, 30, 31, 32, 33, 34, 35, 36, 37, 38, 39, 40, 41, 42, 43, 44, 45, 46, 47, 48, 49, 50, 51, 52, 53, 54, 55, 56, 57, 58, 59, 60, 61, 62, 63, 64, 65, 66, 67, 68, 69, 70, 71, 72, 73, 74, 75, 76, 77, 78, 79, 80, 81, 82, 83, 84, 85, 86, 87] (by decide +kernel) (by decide +kernel)) (goodIn_sub (fun _ h => List.mem_cons_of_mem _ (List.mem_append_left _ (List.mem_append_left _ (List.mem_append_right _ h)))) (by decide +kernel))) (goodIn_sub (fun _ h => List.mem_cons_of_mem _ (List.mem_append_left _ (List.mem_append_right _ h))) (by decide +kernel))) (goodIn_sub (fun _ h => List.mem_cons_of_mem _ (List.mem_append_right _ h)) (by decide +kernel))
set_option maxRecDepth 20000 in
theorem gL_put_X3_put : GoodIn wsL_put (wsV RL 19 RX3 yX3_put wsX3_put) := goodIn_app (goodIn_of _ (by decide +kernel)) ggL_put_X3_put
theorem dL_put_0 : decode cL_put 0 = .ok (.aload 4, 2) := by decide +kernel
theorem dL_put_2 : decode cL_put 2 = .ok (.iconst 0, 1) := by decide +kernel
theorem dL_put_3 : decode cL_put 3 = .ok (.aload_n 0, 1) := by decide +kernel
theorem dL_put_4 : decode cL_put 4 = .ok (.iload_n 1, 1) := by decide +kernel
theorem dL_put_5 : decode cL_put 5 = .ok (.iload_n 2, 1) := by decide +kernel
theorem dL_put_6 : decode cL_put 6 = .ok (.iload_n 3, 1) := by decide +kernel
theorem dL_put_7 : decode cL_put 7 = .ok (.invokevirtual 19, 3) := by decide +kernel
theorem dL_put_10 : decode cL_put 10 = .ok (.i2l, 1) := by decide +kernel
theorem dL_put_11 : decode cL_put 11 = .ok (.lastore, 1) := by decide +kernel
theorem dL_put_12 : decode cL_put 12 = .ok (.goto 15, 3) := by decide +kernel
theorem dL_put_15 : decode cL_put 15 = .ok (.astore 5, 2) := by decide +kernel
