theorem dX2_signsOf_8 : decode cX2_signsOf 8 = .ok (.bipush 32, 2) := by decide +kernel
theorem dX2_signsOf_10 : decode cX2_signsOf 10 = .ok (.ireturn, 1) := by decide +kernel
theorem dX2_signsOf_11 : decode cX2_signsOf 11 = .ok (.iload_n 0, 1) := by decide +kernel
theorem dX2_signsOf_12 : decode cX2_signsOf 12 = .ok (.iload_n 1, 1) := by decide +kernel
theorem dX2_signsOf_13 : decode cX2_signsOf 13 = .ok (.if_icmp .ne 6, 3) := by decide +kernel
theorem dX2_signsOf_16 : decode cX2_signsOf 16 = .ok (.bipush 26, 2) := by decide +kernel
theorem dX2_signsOf_18 : decode cX2_signsOf 18 = .ok (.ireturn, 1) := by decide +kernel
theorem dX2_signsOf_19 : decode cX2_signsOf 19 = .ok (.iload_n 0, 1) := by decide +kernel
theorem dX2_signsOf_20 : decode cX2_signsOf 20 = .ok (.iload_n 1, 1) := by decide +kernel
theorem dX2_signsOf_21 : decode cX2_signsOf 21 = .ok (.if_icmp .ge 8, 3) := by decide +kernel
theorem dX2_signsOf_24 : decode cX2_signsOf 24 = .ok (.bipush 35, 2) := by decide +kernel
theorem dX2_signsOf_26 : decode cX2_signsOf 26 = .ok (.goto 5, 3) := by decide +kernel
theorem dX2_signsOf_29 : decode cX2_signsOf 29 = .ok (.bipush 44, 2) := by decide +kernel
theorem dX2_signsOf_31 : decode cX2_signsOf 31 = .ok (.ireturn, 1) := by decide +kernel
set_option maxRecDepth 20000 in
theorem ggX2_holds_X2_signsOf : GoodIn wsX2_holds wsX2_signsOf := goodIn_r _ [4] (by decide +kernel) (by decide +kernel)
set_option maxRecDepth 20000 in
theorem gX2_holds_X2_signsOf : GoodIn wsX2_holds (va_wsS RX2 47 yX2_signsOf wsX2_signsOf) := goodIn_app (goodIn_of _ (by decide +kernel)) ggX2_holds_X2_signsOf
theorem dX2_holds_0 : decode cX2_holds 0 = .ok (.iload_n 0, 1) := by decide +kernel
theorem dX2_holds_1 : decode cX2_holds 1 = .ok (.iload_n 1, 1) := by decide +kernel
theorem dX2_holds_2 : decode cX2_holds 2 = .ok (.invokestatic 47, 3) := by decide +kernel
theorem dX2_holds_5 : decode cX2_holds 5 = .ok (.iload_n 2, 1) := by decide +kernel
theorem dX2_holds_6 : decode cX2_holds 6 = .ok (.iand, 1) := by decide +kernel
theorem dX2_holds_7 : decode cX2_holds 7 = .ok (.ifCond .eq 7, 3) := by decide +kernel
theorem dX2_holds_10 : decode cX2_holds 10 = .ok (.iconst 1, 1) := by decide +kernel
theorem dX2_holds_11 : decode cX2_holds 11 = .ok (.goto 4, 3) := by decide +kernel
theorem dX2_holds_14 : decode cX2_holds 14 = .ok (.iconst 0, 1) := by decide +kernel
theorem dX2_holds_15 : decode cX2_holds 15 = .ok (.ireturn, 1) := by decide +kernel
set_option maxRecDepth 20000 in
theorem ggX2_fitsChute_X2_holds : GoodIn wsX2_fitsChute wsX2_holds := goodIn_r _ [8, 9, 10, 7, 11] (by decide +kernel) (by decide +kernel)
set_option maxRecDepth 20000 in
theorem gX2_fitsChute_X2_holds : GoodIn wsX2_fitsChute (va_wsS RX2 51 yX2_holds wsX2_holds) := goodIn_app (goodIn_of _ (by decide +kernel)) ggX2_fitsChute_X2_holds
theorem dX2_fitsChute_0 : decode cX2_fitsChute 0 = .ok (.aload_n 0, 1) := by decide +kernel
theorem dX2_fitsChute_1 : decode cX2_fitsChute 1 = .ok (.getfield 22, 3) := by decide +kernel
theorem dX2_fitsChute_4 : decode cX2_fitsChute 4 = .ok (.iload_n 3, 1) := by decide +kernel
theorem dX2_fitsChute_5 : decode cX2_fitsChute 5 = .ok (.iaload, 1) := by decide +kernel
theorem dX2_fitsChute_6 : decode cX2_fitsChute 6 = .ok (.tableswitch 215 0 3 #[30, 79, 128, 164], 30) := by decide +kernel
theorem dX2_fitsChute_36 : decode cX2_fitsChute 36 = .ok (.iload_n 1, 1) := by decide +kernel
theorem dX2_fitsChute_37 : decode cX2_fitsChute 37 = .ok (.aload_n 0, 1) := by decide +kernel
theorem dX2_fitsChute_38 : decode cX2_fitsChute 38 = .ok (.getfield 25, 3) := by decide +kernel
theorem dX2_fitsChute_41 : decode cX2_fitsChute 41 = .ok (.iload_n 3, 1) := by decide +kernel
theorem dX2_fitsChute_42 : decode cX2_fitsChute 42 = .ok (.iaload, 1) := by decide +kernel
theorem dX2_fitsChute_43 : decode cX2_fitsChute 43 = .ok (.bipush 8, 2) := by decide +kernel
theorem dX2_fitsChute_45 : decode cX2_fitsChute 45 = .ok (.invokestatic 51, 3) := by decide +kernel
theorem dX2_fitsChute_48 : decode cX2_fitsChute 48 = .ok (.ifCond .eq 35, 3) := by decide +kernel
theorem dX2_fitsChute_51 : decode cX2_fitsChute 51 = .ok (.iload_n 1, 1) := by decide +kernel
theorem dX2_fitsChute_52 : decode cX2_fitsChute 52 = .ok (.aload_n 0, 1) := by decide +kernel
theorem dX2_fitsChute_53 : decode cX2_fitsChute 53 = .ok (.getfield 28, 3) := by decide +kernel
theorem dX2_fitsChute_56 : decode cX2_fitsChute 56 = .ok (.iload_n 3, 1) := by decide +kernel
theorem dX2_fitsChute_57 : decode cX2_fitsChute 57 = .ok (.iaload, 1) := by decide +kernel
theorem dX2_fitsChute_58 : decode cX2_fitsChute 58 = .ok (.iconst 1, 1) := by decide +kernel
theorem dX2_fitsChute_59 : decode cX2_fitsChute 59 = .ok (.invokestatic 51, 3) := by decide +kernel
theorem dX2_fitsChute_62 : decode cX2_fitsChute 62 = .ok (.ifCond .eq 21, 3) := by decide +kernel
theorem dX2_fitsChute_65 : decode cX2_fitsChute 65 = .ok (.iload_n 2, 1) := by decide +kernel
theorem dX2_fitsChute_66 : decode cX2_fitsChute 66 = .ok (.aload_n 0, 1) := by decide +kernel
theorem dX2_fitsChute_67 : decode cX2_fitsChute 67 = .ok (.getfield 31, 3) := by decide +kernel
theorem dX2_fitsChute_70 : decode cX2_fitsChute 70 = .ok (.iload_n 3, 1) := by decide +kernel
theorem dX2_fitsChute_71 : decode cX2_fitsChute 71 = .ok (.iaload, 1) := by decide +kernel
theorem dX2_fitsChute_72 : decode cX2_fitsChute 72 = .ok (.iconst 2, 1) := by decide +kernel
theorem dX2_fitsChute_73 : decode cX2_fitsChute 73 = .ok (.invokestatic 51, 3) := by decide +kernel
theorem dX2_fitsChute_76 : decode cX2_fitsChute 76 = .ok (.ifCond .eq 7, 3) := by decide +kernel
theorem dX2_fitsChute_79 : decode cX2_fitsChute 79 = .ok (.iconst 1, 1) := by decide +kernel
theorem dX2_fitsChute_80 : decode cX2_fitsChute 80 = .ok (.goto 4, 3) := by decide +kernel
theorem dX2_fitsChute_83 : decode cX2_fitsChute 83 = .ok (.iconst 0, 1) := by decide +kernel
theorem dX2_fitsChute_84 : decode cX2_fitsChute 84 = .ok (.ireturn, 1) := by decide +kernel
theorem dX2_fitsChute_85 : decode cX2_fitsChute 85 = .ok (.iload_n 1, 1) := by decide +kernel
theorem dX2_fitsChute_86 : decode cX2_fitsChute 86 = .ok (.aload_n 0, 1) := by decide +kernel
theorem dX2_fitsChute_87 : decode cX2_fitsChute 87 = .ok (.getfield 25, 3) := by decide +kernel
theorem dX2_fitsChute_90 : decode cX2_fitsChute 90 = .ok (.iload_n 3, 1) := by decide +kernel
theorem dX2_fitsChute_91 : decode cX2_fitsChute 91 = .ok (.iaload, 1) := by decide +kernel
theorem dX2_fitsChute_92 : decode cX2_fitsChute 92 = .ok (.iconst 1, 1) := by decide +kernel
theorem dX2_fitsChute_93 : decode cX2_fitsChute 93 = .ok (.invokestatic 51, 3) := by decide +kernel
theorem dX2_fitsChute_96 : decode cX2_fitsChute 96 = .ok (.ifCond .ne 36, 3) := by decide +kernel
theorem dX2_fitsChute_99 : decode cX2_fitsChute 99 = .ok (.iload_n 1, 1) := by decide +kernel
theorem dX2_fitsChute_100 : decode cX2_fitsChute 100 = .ok (.aload_n 0, 1) := by decide +kernel
theorem dX2_fitsChute_101 : decode cX2_fitsChute 101 = .ok (.getfield 28, 3) := by decide +kernel
theorem dX2_fitsChute_104 : decode cX2_fitsChute 104 = .ok (.iload_n 3, 1) := by decide +kernel
theorem dX2_fitsChute_105 : decode cX2_fitsChute 105 = .ok (.iaload, 1) := by decide +kernel
theorem dX2_fitsChute_106 : decode cX2_fitsChute 106 = .ok (.bipush 8, 2) := by decide +kernel
theorem dX2_fitsChute_108 : decode cX2_fitsChute 108 = .ok (.invokestatic 51, 3) := by decide +kernel
theorem dX2_fitsChute_111 : decode cX2_fitsChute 111 = .ok (.ifCond .ne 21, 3) := by decide +kernel
theorem dX2_fitsChute_114 : decode cX2_fitsChute 114 = .ok (.iload_n 2, 1) := by decide +kernel
theorem dX2_fitsChute_115 : decode cX2_fitsChute 115 = .ok (.aload_n 0, 1) := by decide +kernel
theorem dX2_fitsChute_116 : decode cX2_fitsChute 116 = .ok (.getfield 31, 3) := by decide +kernel
theorem dX2_fitsChute_119 : decode cX2_fitsChute 119 = .ok (.iload_n 3, 1) := by decide +kernel
theorem dX2_fitsChute_120 : decode cX2_fitsChute 120 = .ok (.iaload, 1) := by decide +kernel
theorem dX2_fitsChute_121 : decode cX2_fitsChute 121 = .ok (.iconst 4, 1) := by decide +kernel
theorem dX2_fitsChute_122 : decode cX2_fitsChute 122 = .ok (.invokestatic 51, 3) := by decide +kernel
theorem dX2_fitsChute_125 : decode cX2_fitsChute 125 = .ok (.ifCond .ne 7, 3) := by decide +kernel
theorem dX2_fitsChute_128 : decode cX2_fitsChute 128 = .ok (.iconst 1, 1) := by decide +kernel
theorem dX2_fitsChute_129 : decode cX2_fitsChute 129 = .ok (.goto 4, 3) := by decide +kernel
theorem dX2_fitsChute_132 : decode cX2_fitsChute 132 = .ok (.iconst 0, 1) := by decide +kernel
theorem dX2_fitsChute_133 : decode cX2_fitsChute 133 = .ok (.ireturn, 1) := by decide +kernel
theorem dX2_fitsChute_134 : decode cX2_fitsChute 134 = .ok (.iload_n 1, 1) := by decide +kernel
theorem dX2_fitsChute_135 : decode cX2_fitsChute 135 = .ok (.aload_n 0, 1) := by decide +kernel
theorem dX2_fitsChute_136 : decode cX2_fitsChute 136 = .ok (.getfield 25, 3) := by decide +kernel
theorem dX2_fitsChute_139 : decode cX2_fitsChute 139 = .ok (.iload_n 3, 1) := by decide +kernel
theorem dX2_fitsChute_140 : decode cX2_fitsChute 140 = .ok (.iaload, 1) := by decide +kernel
theorem dX2_fitsChute_141 : decode cX2_fitsChute 141 = .ok (.bipush 16, 2) := by decide +kernel
theorem dX2_fitsChute_143 : decode cX2_fitsChute 143 = .ok (.invokestatic 51, 3) := by decide +kernel
theorem dX2_fitsChute_146 : decode cX2_fitsChute 146 = .ok (.ifCond .ne 18, 3) := by decide +kernel
theorem dX2_fitsChute_149 : decode cX2_fitsChute 149 = .ok (.iload_n 2, 1) := by decide +kernel
theorem dX2_fitsChute_150 : decode cX2_fitsChute 150 = .ok (.aload_n 0, 1) := by decide +kernel
theorem dX2_fitsChute_151 : decode cX2_fitsChute 151 = .ok (.getfield 31, 3) := by decide +kernel
theorem dX2_fitsChute_154 : decode cX2_fitsChute 154 = .ok (.iload_n 3, 1) := by decide +kernel
theorem dX2_fitsChute_155 : decode cX2_fitsChute 155 = .ok (.iaload, 1) := by decide +kernel
theorem dX2_fitsChute_156 : decode cX2_fitsChute 156 = .ok (.bipush 16, 2) := by decide +kernel
theorem dX2_fitsChute_158 : decode cX2_fitsChute 158 = .ok (.invokestatic 51, 3) := by decide +kernel
theorem dX2_fitsChute_161 : decode cX2_fitsChute 161 = .ok (.ifCond .eq 7, 3) := by decide +kernel
theorem dX2_fitsChute_164 : decode cX2_fitsChute 164 = .ok (.iconst 1, 1) := by decide +kernel
theorem dX2_fitsChute_165 : decode cX2_fitsChute 165 = .ok (.goto 4, 3) := by decide +kernel
theorem dX2_fitsChute_168 : decode cX2_fitsChute 168 = .ok (.iconst 0, 1) := by decide +kernel
theorem dX2_fitsChute_169 : decode cX2_fitsChute 169 = .ok (.ireturn, 1) := by decide +kernel
theorem dX2_fitsChute_170 : decode cX2_fitsChute 170 = .ok (.iload_n 1, 1) := by decide +kernel
theorem dX2_fitsChute_171 : decode cX2_fitsChute 171 = .ok (.aload_n 0, 1) := by decide +kernel
theorem dX2_fitsChute_172 : decode cX2_fitsChute 172 = .ok (.getfield 25, 3) := by decide +kernel
theorem dX2_fitsChute_175 : decode cX2_fitsChute 175 = .ok (.iload_n 3, 1) := by decide +kernel
theorem dX2_fitsChute_176 : decode cX2_fitsChute 176 = .ok (.iaload, 1) := by decide +kernel
theorem dX2_fitsChute_177 : decode cX2_fitsChute 177 = .ok (.bipush 32, 2) := by decide +kernel
theorem dX2_fitsChute_179 : decode cX2_fitsChute 179 = .ok (.invokestatic 51, 3) := by decide +kernel
theorem dX2_fitsChute_182 : decode cX2_fitsChute 182 = .ok (.ifCond .eq 37, 3) := by decide +kernel
theorem dX2_fitsChute_185 : decode cX2_fitsChute 185 = .ok (.iload_n 1, 1) := by decide +kernel
theorem dX2_fitsChute_186 : decode cX2_fitsChute 186 = .ok (.aload_n 0, 1) := by decide +kernel
theorem dX2_fitsChute_187 : decode cX2_fitsChute 187 = .ok (.getfield 28, 3) := by decide +kernel
theorem dX2_fitsChute_190 : decode cX2_fitsChute 190 = .ok (.iload_n 3, 1) := by decide +kernel
theorem dX2_fitsChute_191 : decode cX2_fitsChute 191 = .ok (.iaload, 1) := by decide +kernel
theorem dX2_fitsChute_192 : decode cX2_fitsChute 192 = .ok (.bipush 32, 2) := by decide +kernel
theorem dX2_fitsChute_194 : decode cX2_fitsChute 194 = .ok (.invokestatic 51, 3) := by decide +kernel
theorem dX2_fitsChute_197 : decode cX2_fitsChute 197 = .ok (.ifCond .eq 22, 3) := by decide +kernel
theorem dX2_fitsChute_200 : decode cX2_fitsChute 200 = .ok (.iload_n 2, 1) := by decide +kernel
theorem dX2_fitsChute_201 : decode cX2_fitsChute 201 = .ok (.aload_n 0, 1) := by decide +kernel
theorem dX2_fitsChute_202 : decode cX2_fitsChute 202 = .ok (.getfield 31, 3) := by decide +kernel
theorem dX2_fitsChute_205 : decode cX2_fitsChute 205 = .ok (.iload_n 3, 1) := by decide +kernel
theorem dX2_fitsChute_206 : decode cX2_fitsChute 206 = .ok (.iaload, 1) := by decide +kernel
theorem dX2_fitsChute_207 : decode cX2_fitsChute 207 = .ok (.bipush 32, 2) := by decide +kernel
theorem dX2_fitsChute_209 : decode cX2_fitsChute 209 = .ok (.invokestatic 51, 3) := by decide +kernel
theorem dX2_fitsChute_212 : decode cX2_fitsChute 212 = .ok (.ifCond .eq 7, 3) := by decide +kernel
theorem dX2_fitsChute_215 : decode cX2_fitsChute 215 = .ok (.iconst 1, 1) := by decide +kernel
theorem dX2_fitsChute_216 : decode cX2_fitsChute 216 = .ok (.goto 4, 3) := by decide +kernel
theorem dX2_fitsChute_219 : decode cX2_fitsChute 219 = .ok (.iconst 0, 1) := by decide +kernel
theorem dX2_fitsChute_220 : decode cX2_fitsChute 220 = .ok (.ireturn, 1) := by decide +kernel
theorem dX2_fitsChute_221 : decode cX2_fitsChute 221 = .ok (.iload_n 1, 1) := by decide +kernel
theorem dX2_fitsChute_222 : decode cX2_fitsChute 222 = .ok (.aload_n 0, 1) := by decide +kernel
theorem dX2_fitsChute_223 : decode cX2_fitsChute 223 = .ok (.getfield 28, 3) := by decide +kernel
theorem dX2_fitsChute_226 : decode cX2_fitsChute 226 = .ok (.iload_n 3, 1) := by decide +kernel
theorem dX2_fitsChute_227 : decode cX2_fitsChute 227 = .ok (.iaload, 1) := by decide +kernel
theorem dX2_fitsChute_228 : decode cX2_fitsChute 228 = .ok (.iconst 4, 1) := by decide +kernel
theorem dX2_fitsChute_229 : decode cX2_fitsChute 229 = .ok (.invokestatic 51, 3) := by decide +kernel
theorem dX2_fitsChute_232 : decode cX2_fitsChute 232 = .ok (.ifCond .ne 32, 3) := by decide +kernel
theorem dX2_fitsChute_235 : decode cX2_fitsChute 235 = .ok (.iload_n 1, 1) := by decide +kernel
theorem dX2_fitsChute_236 : decode cX2_fitsChute 236 = .ok (.aload_n 0, 1) := by decide +kernel
theorem dX2_fitsChute_237 : decode cX2_fitsChute 237 = .ok (.getfield 25, 3) := by decide +kernel
theorem dX2_fitsChute_240 : decode cX2_fitsChute 240 = .ok (.iload_n 3, 1) := by decide +kernel
theorem dX2_fitsChute_241 : decode cX2_fitsChute 241 = .ok (.iaload, 1) := by decide +kernel
theorem dX2_fitsChute_242 : decode cX2_fitsChute 242 = .ok (.iconst 1, 1) := by decide +kernel
theorem dX2_fitsChute_243 : decode cX2_fitsChute 243 = .ok (.invokestatic 51, 3) := by decide +kernel
theorem dX2_fitsChute_246 : decode cX2_fitsChute 246 = .ok (.ifCond .ne 18, 3) := by decide +kernel
theorem dX2_fitsChute_249 : decode cX2_fitsChute 249 = .ok (.iload_n 2, 1) := by decide +kernel
theorem dX2_fitsChute_250 : decode cX2_fitsChute 250 = .ok (.aload_n 0, 1) := by decide +kernel
theorem dX2_fitsChute_251 : decode cX2_fitsChute 251 = .ok (.getfield 31, 3) := by decide +kernel
theorem dX2_fitsChute_254 : decode cX2_fitsChute 254 = .ok (.iload_n 3, 1) := by decide +kernel
theorem dX2_fitsChute_255 : decode cX2_fitsChute 255 = .ok (.iaload, 1) := by decide +kernel
theorem dX2_fitsChute_256 : decode cX2_fitsChute 256 = .ok (.bipush 8, 2) := by decide +kernel
theorem dX2_fitsChute_258 : decode cX2_fitsChute 258 = .ok (.invokestatic 51, 3) := by decide +kernel
theorem dX2_fitsChute_261 : decode cX2_fitsChute 261 = .ok (.ifCond .eq 7, 3) := by decide +kernel
theorem dX2_fitsChute_264 : decode cX2_fitsChute 264 = .ok (.iconst 1, 1) := by decide +kernel
theorem dX2_fitsChute_265 : decode cX2_fitsChute 265 = .ok (.goto 4, 3) := by decide +kernel
theorem dX2_fitsChute_268 : decode cX2_fitsChute 268 = .ok (.iconst 0, 1) := by decide +kernel
theorem dX2_fitsChute_269 : decode cX2_fitsChute 269 = .ok (.ireturn, 1) := by decide +kernel
theorem dX2_many_0 : decode cX2_many 0 = .ok (.iconst 0, 1) := by decide +kernel
theorem dX2_many_1 : decode cX2_many 1 = .ok (.istore_n 2, 1) := by decide +kernel
theorem dX2_many_2 : decode cX2_many 2 = .ok (.iconst 0, 1) := by decide +kernel
theorem dX2_many_3 : decode cX2_many 3 = .ok (.istore_n 3, 1) := by decide +kernel
theorem dX2_many_4 : decode cX2_many 4 = .ok (.iload_n 3, 1) := by decide +kernel
theorem dX2_many_5 : decode cX2_many 5 = .ok (.bipush 96, 2) := by decide +kernel
theorem dX2_many_7 : decode cX2_many 7 = .ok (.if_icmp .ge 27, 3) := by decide +kernel
theorem dX2_many_10 : decode cX2_many 10 = .ok (.iload_n 2, 1) := by decide +kernel
theorem dX2_many_11 : decode cX2_many 11 = .ok (.aload_n 0, 1) := by decide +kernel
theorem dX2_many_12 : decode cX2_many 12 = .ok (.getfield 7, 3) := by decide +kernel
theorem dX2_many_15 : decode cX2_many 15 = .ok (.iload_n 3, 1) := by decide +kernel
theorem dX2_many_16 : decode cX2_many 16 = .ok (.iaload, 1) := by decide +kernel
theorem dX2_many_17 : decode cX2_many 17 = .ok (.iload_n 1, 1) := by decide +kernel
theorem dX2_many_18 : decode cX2_many 18 = .ok (.if_icmp .ne 7, 3) := by decide +kernel
theorem dX2_many_21 : decode cX2_many 21 = .ok (.iconst 1, 1) := by decide +kernel
theorem dX2_many_22 : decode cX2_many 22 = .ok (.goto 4, 3) := by decide +kernel
theorem dX2_many_25 : decode cX2_many 25 = .ok (.iconst 0, 1) := by decide +kernel
theorem dX2_many_26 : decode cX2_many 26 = .ok (.iadd, 1) := by decide +kernel
theorem dX2_many_27 : decode cX2_many 27 = .ok (.istore_n 2, 1) := by decide +kernel
theorem dX2_many_28 : decode cX2_many 28 = .ok (.iinc 3 1, 3) := by decide +kernel
theorem dX2_many_31 : decode cX2_many 31 = .ok (.goto (-27), 3) := by decide +kernel
theorem dX2_many_34 : decode cX2_many 34 = .ok (.iload_n 2, 1) := by decide +kernel
theorem dX2_many_35 : decode cX2_many 35 = .ok (.ireturn, 1) := by decide +kernel
theorem dX2_isAhead_0 : decode cX2_isAhead 0 = .ok (.aload_n 0, 1) := by decide +kernel
theorem dX2_isAhead_1 : decode cX2_isAhead 1 = .ok (.getfield 13, 3) := by decide +kernel
theorem dX2_isAhead_4 : decode cX2_isAhead 4 = .ok (.iload_n 1, 1) := by decide +kernel
theorem dX2_isAhead_5 : decode cX2_isAhead 5 = .ok (.iaload, 1) := by decide +kernel
theorem dX2_isAhead_6 : decode cX2_isAhead 6 = .ok (.ifCond .le 7, 3) := by decide +kernel
theorem dX2_isAhead_9 : decode cX2_isAhead 9 = .ok (.iconst 1, 1) := by decide +kernel
theorem dX2_isAhead_10 : decode cX2_isAhead 10 = .ok (.goto 4, 3) := by decide +kernel
theorem dX2_isAhead_13 : decode cX2_isAhead 13 = .ok (.iconst 0, 1) := by decide +kernel
theorem dX2_isAhead_14 : decode cX2_isAhead 14 = .ok (.istore_n 3, 1) := by decide +kernel
theorem dX2_isAhead_15 : decode cX2_isAhead 15 = .ok (.iload_n 3, 1) := by decide +kernel
theorem dX2_isAhead_16 : decode cX2_isAhead 16 = .ok (.aload_n 0, 1) := by decide +kernel
theorem dX2_isAhead_17 : decode cX2_isAhead 17 = .ok (.getfield 13, 3) := by decide +kernel
theorem dX2_isAhead_20 : decode cX2_isAhead 20 = .ok (.iload_n 2, 1) := by decide +kernel
theorem dX2_isAhead_21 : decode cX2_isAhead 21 = .ok (.iaload, 1) := by decide +kernel
theorem dX2_isAhead_22 : decode cX2_isAhead 22 = .ok (.ifCond .le 7, 3) := by decide +kernel
theorem dX2_isAhead_25 : decode cX2_isAhead 25 = .ok (.iconst 1, 1) := by decide +kernel
theorem dX2_isAhead_26 : decode cX2_isAhead 26 = .ok (.goto 4, 3) := by decide +kernel
theorem dX2_isAhead_29 : decode cX2_isAhead 29 = .ok (.iconst 0, 1) := by decide +kernel
theorem dX2_isAhead_30 : decode cX2_isAhead 30 = .ok (.if_icmp .eq 5, 3) := by decide +kernel
theorem dX2_isAhead_33 : decode cX2_isAhead 33 = .ok (.iload_n 3, 1) := by decide +kernel
theorem dX2_isAhead_34 : decode cX2_isAhead 34 = .ok (.ireturn, 1) := by decide +kernel
theorem dX2_isAhead_35 : decode cX2_isAhead 35 = .ok (.iload_n 3, 1) := by decide +kernel
theorem dX2_isAhead_36 : decode cX2_isAhead 36 = .ok (.ifCond .eq 39, 3) := by decide +kernel
theorem dX2_isAhead_39 : decode cX2_isAhead 39 = .ok (.aload_n 0, 1) := by decide +kernel
theorem dX2_isAhead_40 : decode cX2_isAhead 40 = .ok (.getfield 13, 3) := by decide +kernel
theorem dX2_isAhead_43 : decode cX2_isAhead 43 = .ok (.iload_n 1, 1) := by decide +kernel
theorem dX2_isAhead_44 : decode cX2_isAhead 44 = .ok (.iaload, 1) := by decide +kernel
theorem dX2_isAhead_45 : decode cX2_isAhead 45 = .ok (.aload_n 0, 1) := by decide +kernel
theorem dX2_isAhead_46 : decode cX2_isAhead 46 = .ok (.getfield 13, 3) := by decide +kernel
theorem dX2_isAhead_49 : decode cX2_isAhead 49 = .ok (.iload_n 2, 1) := by decide +kernel
theorem dX2_isAhead_50 : decode cX2_isAhead 50 = .ok (.iaload, 1) := by decide +kernel
theorem dX2_isAhead_51 : decode cX2_isAhead 51 = .ok (.if_icmp .eq 24, 3) := by decide +kernel
theorem dX2_isAhead_54 : decode cX2_isAhead 54 = .ok (.aload_n 0, 1) := by decide +kernel
theorem dX2_isAhead_55 : decode cX2_isAhead 55 = .ok (.getfield 13, 3) := by decide +kernel
theorem dX2_isAhead_58 : decode cX2_isAhead 58 = .ok (.iload_n 1, 1) := by decide +kernel
theorem dX2_isAhead_59 : decode cX2_isAhead 59 = .ok (.iaload, 1) := by decide +kernel
theorem dX2_isAhead_60 : decode cX2_isAhead 60 = .ok (.aload_n 0, 1) := by decide +kernel
theorem dX2_isAhead_61 : decode cX2_isAhead 61 = .ok (.getfield 13, 3) := by decide +kernel
theorem dX2_isAhead_64 : decode cX2_isAhead 64 = .ok (.iload_n 2, 1) := by decide +kernel
theorem dX2_isAhead_65 : decode cX2_isAhead 65 = .ok (.iaload, 1) := by decide +kernel
theorem dX2_isAhead_66 : decode cX2_isAhead 66 = .ok (.if_icmp .ge 7, 3) := by decide +kernel
theorem dX2_isAhead_69 : decode cX2_isAhead 69 = .ok (.iconst 1, 1) := by decide +kernel
theorem dX2_isAhead_70 : decode cX2_isAhead 70 = .ok (.goto 4, 3) := by decide +kernel
theorem dX2_isAhead_73 : decode cX2_isAhead 73 = .ok (.iconst 0, 1) := by decide +kernel
theorem dX2_isAhead_74 : decode cX2_isAhead 74 = .ok (.ireturn, 1) := by decide +kernel
theorem dX2_isAhead_75 : decode cX2_isAhead 75 = .ok (.aload_n 0, 1) := by decide +kernel
theorem dX2_isAhead_76 : decode cX2_isAhead 76 = .ok (.getfield 19, 3) := by decide +kernel
theorem dX2_isAhead_79 : decode cX2_isAhead 79 = .ok (.iload_n 1, 1) := by decide +kernel
theorem dX2_isAhead_80 : decode cX2_isAhead 80 = .ok (.iaload, 1) := by decide +kernel
theorem dX2_isAhead_81 : decode cX2_isAhead 81 = .ok (.aload_n 0, 1) := by decide +kernel
theorem dX2_isAhead_82 : decode cX2_isAhead 82 = .ok (.getfield 19, 3) := by decide +kernel
theorem dX2_isAhead_85 : decode cX2_isAhead 85 = .ok (.iload_n 2, 1) := by decide +kernel
theorem dX2_isAhead_86 : decode cX2_isAhead 86 = .ok (.iaload, 1) := by decide +kernel
theorem dX2_isAhead_87 : decode cX2_isAhead 87 = .ok (.if_icmp .ge 7, 3) := by decide +kernel
theorem dX2_isAhead_90 : decode cX2_isAhead 90 = .ok (.iconst 1, 1) := by decide +kernel
theorem dX2_isAhead_91 : decode cX2_isAhead 91 = .ok (.goto 4, 3) := by decide +kernel
theorem dX2_isAhead_94 : decode cX2_isAhead 94 = .ok (.iconst 0, 1) := by decide +kernel
theorem dX2_isAhead_95 : decode cX2_isAhead 95 = .ok (.ireturn, 1) := by decide +kernel
set_option maxRecDepth 20000 in
theorem ggX2_placeOf_X2_isAhead : GoodIn wsX2_placeOf wsX2_isAhead := goodIn_r _ [6, 7, 8, 9, 10, 11, 12, 13, 14, 15, 16, 17, 18, 19, 20, 21, 22, 23, 24, 25, 26, 27, 28] (by decide +kernel) (by decide +kernel)
set_option maxRecDepth 20000 in
theorem gX2_placeOf_X2_isAhead : GoodIn wsX2_placeOf (wsV RX2 55 RX2 yX2_isAhead wsX2_isAhead) := goodIn_app (goodIn_of _ (by decide +kernel)) ggX2_placeOf_X2_isAhead
theorem dX2_placeOf_0 : decode cX2_placeOf 0 = .ok (.iconst 0, 1) := by decide +kernel
theorem dX2_placeOf_1 : decode cX2_placeOf 1 = .ok (.istore_n 2, 1) := by decide +kernel
theorem dX2_placeOf_2 : decode cX2_placeOf 2 = .ok (.iconst 0, 1) := by decide +kernel
theorem dX2_placeOf_3 : decode cX2_placeOf 3 = .ok (.istore_n 3, 1) := by decide +kernel
theorem dX2_placeOf_4 : decode cX2_placeOf 4 = .ok (.iload_n 3, 1) := by decide +kernel
theorem dX2_placeOf_5 : decode cX2_placeOf 5 = .ok (.bipush 96, 2) := by decide +kernel
theorem dX2_placeOf_7 : decode cX2_placeOf 7 = .ok (.if_icmp .ge 46, 3) := by decide +kernel
theorem dX2_placeOf_10 : decode cX2_placeOf 10 = .ok (.iload_n 2, 1) := by decide +kernel
theorem dX2_placeOf_11 : decode cX2_placeOf 11 = .ok (.aload_n 0, 1) := by decide +kernel
theorem dX2_placeOf_12 : decode cX2_placeOf 12 = .ok (.getfield 7, 3) := by decide +kernel
theorem dX2_placeOf_15 : decode cX2_placeOf 15 = .ok (.iload_n 3, 1) := by decide +kernel
theorem dX2_placeOf_16 : decode cX2_placeOf 16 = .ok (.iaload, 1) := by decide +kernel
theorem dX2_placeOf_17 : decode cX2_placeOf 17 = .ok (.aload_n 0, 1) := by decide +kernel
theorem dX2_placeOf_18 : decode cX2_placeOf 18 = .ok (.getfield 7, 3) := by decide +kernel
theorem dX2_placeOf_21 : decode cX2_placeOf 21 = .ok (.iload_n 1, 1) := by decide +kernel
theorem dX2_placeOf_22 : decode cX2_placeOf 22 = .ok (.iaload, 1) := by decide +kernel
theorem dX2_placeOf_23 : decode cX2_placeOf 23 = .ok (.if_icmp .ne 21, 3) := by decide +kernel
theorem dX2_placeOf_26 : decode cX2_placeOf 26 = .ok (.iload_n 3, 1) := by decide +kernel
theorem dX2_placeOf_27 : decode cX2_placeOf 27 = .ok (.iload_n 1, 1) := by decide +kernel
theorem dX2_placeOf_28 : decode cX2_placeOf 28 = .ok (.if_icmp .eq 16, 3) := by decide +kernel
theorem dX2_placeOf_31 : decode cX2_placeOf 31 = .ok (.aload_n 0, 1) := by decide +kernel
theorem dX2_placeOf_32 : decode cX2_placeOf 32 = .ok (.iload_n 3, 1) := by decide +kernel
theorem dX2_placeOf_33 : decode cX2_placeOf 33 = .ok (.iload_n 1, 1) := by decide +kernel
theorem dX2_placeOf_34 : decode cX2_placeOf 34 = .ok (.invokevirtual 55, 3) := by decide +kernel
theorem dX2_placeOf_37 : decode cX2_placeOf 37 = .ok (.ifCond .eq 7, 3) := by decide +kernel
theorem dX2_placeOf_40 : decode cX2_placeOf 40 = .ok (.iconst 1, 1) := by decide +kernel
theorem dX2_placeOf_41 : decode cX2_placeOf 41 = .ok (.goto 4, 3) := by decide +kernel
theorem dX2_placeOf_44 : decode cX2_placeOf 44 = .ok (.iconst 0, 1) := by decide +kernel
theorem dX2_placeOf_45 : decode cX2_placeOf 45 = .ok (.iadd, 1) := by decide +kernel
theorem dX2_placeOf_46 : decode cX2_placeOf 46 = .ok (.istore_n 2, 1) := by decide +kernel
theorem dX2_placeOf_47 : decode cX2_placeOf 47 = .ok (.iinc 3 1, 3) := by decide +kernel
theorem dX2_placeOf_50 : decode cX2_placeOf 50 = .ok (.goto (-46), 3) := by decide +kernel
theorem dX2_placeOf_53 : decode cX2_placeOf 53 = .ok (.iload_n 2, 1) := by decide +kernel
theorem dX2_placeOf_54 : decode cX2_placeOf 54 = .ok (.ireturn, 1) := by decide +kernel
set_option maxRecDepth 20000 in
theorem ggX2_parcelAt_X2_placeOf : GoodIn wsX2_parcelAt wsX2_placeOf := goodIn_r _ [6, 1, 7, 8, 9, 5, 10, 11, 12, 13, 14, 15, 16, 17, 18, 19, 20, 21, 22, 23, 24, 25, 26, 27, 28, 29, 30, 31, 32] (by decide +kernel) (by decide +kernel)
set_option maxRecDepth 20000 in
theorem gX2_parcelAt_X2_placeOf : GoodIn wsX2_parcelAt (wsV RX2 58 RX2 yX2_placeOf wsX2_placeOf) := goodIn_app (goodIn_of _ (by decide +kernel)) ggX2_parcelAt_X2_placeOf
theorem dX2_parcelAt_0 : decode cX2_parcelAt 0 = .ok (.iconst 0, 1) := by decide +kernel
theorem dX2_parcelAt_1 : decode cX2_parcelAt 1 = .ok (.istore_n 3, 1) := by decide +kernel
theorem dX2_parcelAt_2 : decode cX2_parcelAt 2 = .ok (.iload_n 3, 1) := by decide +kernel
theorem dX2_parcelAt_3 : decode cX2_parcelAt 3 = .ok (.bipush 96, 2) := by decide +kernel
theorem dX2_parcelAt_5 : decode cX2_parcelAt 5 = .ok (.if_icmp .ge 30, 3) := by decide +kernel
theorem dX2_parcelAt_8 : decode cX2_parcelAt 8 = .ok (.aload_n 0, 1) := by decide +kernel
theorem dX2_parcelAt_9 : decode cX2_parcelAt 9 = .ok (.getfield 7, 3) := by decide +kernel
theorem dX2_parcelAt_12 : decode cX2_parcelAt 12 = .ok (.iload_n 3, 1) := by decide +kernel
theorem dX2_parcelAt_13 : decode cX2_parcelAt 13 = .ok (.iaload, 1) := by decide +kernel
theorem dX2_parcelAt_14 : decode cX2_parcelAt 14 = .ok (.iload_n 1, 1) := by decide +kernel
theorem dX2_parcelAt_15 : decode cX2_parcelAt 15 = .ok (.if_icmp .ne 14, 3) := by decide +kernel
theorem dX2_parcelAt_18 : decode cX2_parcelAt 18 = .ok (.aload_n 0, 1) := by decide +kernel
theorem dX2_parcelAt_19 : decode cX2_parcelAt 19 = .ok (.iload_n 3, 1) := by decide +kernel
theorem dX2_parcelAt_20 : decode cX2_parcelAt 20 = .ok (.invokevirtual 58, 3) := by decide +kernel
theorem dX2_parcelAt_23 : decode cX2_parcelAt 23 = .ok (.iload_n 2, 1) := by decide +kernel
theorem dX2_parcelAt_24 : decode cX2_parcelAt 24 = .ok (.if_icmp .ne 5, 3) := by decide +kernel
theorem dX2_parcelAt_27 : decode cX2_parcelAt 27 = .ok (.iload_n 3, 1) := by decide +kernel
theorem dX2_parcelAt_28 : decode cX2_parcelAt 28 = .ok (.ireturn, 1) := by decide +kernel
theorem dX2_parcelAt_29 : decode cX2_parcelAt 29 = .ok (.iinc 3 1, 3) := by decide +kernel
theorem dX2_parcelAt_32 : decode cX2_parcelAt 32 = .ok (.goto (-30), 3) := by decide +kernel
theorem dX2_parcelAt_35 : decode cX2_parcelAt 35 = .ok (.iconst (-1), 1) := by decide +kernel
theorem dX2_parcelAt_36 : decode cX2_parcelAt 36 = .ok (.ireturn, 1) := by decide +kernel
theorem dX2_putIn_0 : decode cX2_putIn 0 = .ok (.iconst 0, 1) := by decide +kernel
theorem dX2_putIn_1 : decode cX2_putIn 1 = .ok (.istore 4, 2) := by decide +kernel
theorem dX2_putIn_3 : decode cX2_putIn 3 = .ok (.aload_n 0, 1) := by decide +kernel
theorem dX2_putIn_4 : decode cX2_putIn 4 = .ok (.getfield 7, 3) := by decide +kernel
theorem dX2_putIn_7 : decode cX2_putIn 7 = .ok (.iload 4, 2) := by decide +kernel
theorem dX2_putIn_9 : decode cX2_putIn 9 = .ok (.iaload, 1) := by decide +kernel
theorem dX2_putIn_10 : decode cX2_putIn 10 = .ok (.iconst (-1), 1) := by decide +kernel
theorem dX2_putIn_11 : decode cX2_putIn 11 = .ok (.if_icmp .eq 9, 3) := by decide +kernel
theorem dX2_putIn_14 : decode cX2_putIn 14 = .ok (.iinc 4 1, 3) := by decide +kernel
theorem dX2_putIn_17 : decode cX2_putIn 17 = .ok (.goto (-14), 3) := by decide +kernel
theorem dX2_putIn_20 : decode cX2_putIn 20 = .ok (.aload_n 0, 1) := by decide +kernel
theorem dX2_putIn_21 : decode cX2_putIn 21 = .ok (.getfield 7, 3) := by decide +kernel
theorem dX2_putIn_24 : decode cX2_putIn 24 = .ok (.iload 4, 2) := by decide +kernel
theorem dX2_putIn_26 : decode cX2_putIn 26 = .ok (.iload_n 3, 1) := by decide +kernel
theorem dX2_putIn_27 : decode cX2_putIn 27 = .ok (.iastore, 1) := by decide +kernel
theorem dX2_putIn_28 : decode cX2_putIn 28 = .ok (.aload_n 0, 1) := by decide +kernel
theorem dX2_putIn_29 : decode cX2_putIn 29 = .ok (.getfield 13, 3) := by decide +kernel
theorem dX2_putIn_32 : decode cX2_putIn 32 = .ok (.iload 4, 2) := by decide +kernel
theorem dX2_putIn_34 : decode cX2_putIn 34 = .ok (.iload_n 1, 1) := by decide +kernel
theorem dX2_putIn_35 : decode cX2_putIn 35 = .ok (.iastore, 1) := by decide +kernel
theorem dX2_putIn_36 : decode cX2_putIn 36 = .ok (.aload_n 0, 1) := by decide +kernel
theorem dX2_putIn_37 : decode cX2_putIn 37 = .ok (.getfield 16, 3) := by decide +kernel
theorem dX2_putIn_40 : decode cX2_putIn 40 = .ok (.iload 4, 2) := by decide +kernel
theorem dX2_putIn_42 : decode cX2_putIn 42 = .ok (.iload_n 2, 1) := by decide +kernel
theorem dX2_putIn_43 : decode cX2_putIn 43 = .ok (.iastore, 1) := by decide +kernel
theorem dX2_putIn_44 : decode cX2_putIn 44 = .ok (.aload_n 0, 1) := by decide +kernel
theorem dX2_putIn_45 : decode cX2_putIn 45 = .ok (.getfield 19, 3) := by decide +kernel
theorem dX2_putIn_48 : decode cX2_putIn 48 = .ok (.iload 4, 2) := by decide +kernel
theorem dX2_putIn_50 : decode cX2_putIn 50 = .ok (.aload_n 0, 1) := by decide +kernel
theorem dX2_putIn_51 : decode cX2_putIn 51 = .ok (.getfield 62, 3) := by decide +kernel
theorem dX2_putIn_54 : decode cX2_putIn 54 = .ok (.iastore, 1) := by decide +kernel
theorem dX2_putIn_55 : decode cX2_putIn 55 = .ok (.aload_n 0, 1) := by decide +kernel
theorem dX2_putIn_56 : decode cX2_putIn 56 = .ok (.dup, 1) := by decide +kernel
theorem dX2_putIn_57 : decode cX2_putIn 57 = .ok (.getfield 62, 3) := by decide +kernel
theorem dX2_putIn_60 : decode cX2_putIn 60 = .ok (.iconst 1, 1) := by decide +kernel
theorem dX2_putIn_61 : decode cX2_putIn 61 = .ok (.iadd, 1) := by decide +kernel
theorem dX2_putIn_62 : decode cX2_putIn 62 = .ok (.putfield 62, 3) := by decide +kernel
theorem dX2_putIn_65 : decode cX2_putIn 65 = .ok (.return_, 1) := by decide +kernel
theorem dX2_putAside_0 : decode cX2_putAside 0 = .ok (.aload_n 0, 1) := by decide +kernel
theorem dX2_putAside_1 : decode cX2_putAside 1 = .ok (.dup, 1) := by decide +kernel
theorem dX2_putAside_2 : decode cX2_putAside 2 = .ok (.getfield 65, 3) := by decide +kernel
theorem dX2_putAside_5 : decode cX2_putAside 5 = .ok (.iconst 1, 1) := by decide +kernel
theorem dX2_putAside_6 : decode cX2_putAside 6 = .ok (.iadd, 1) := by decide +kernel
theorem dX2_putAside_7 : decode cX2_putAside 7 = .ok (.putfield 65, 3) := by decide +kernel
theorem dX2_putAside_10 : decode cX2_putAside 10 = .ok (.aload_n 0, 1) := by decide +kernel
theorem dX2_putAside_11 : decode cX2_putAside 11 = .ok (.iload_n 1, 1) := by decide +kernel
theorem dX2_putAside_12 : decode cX2_putAside 12 = .ok (.putfield 68, 3) := by decide +kernel
theorem dX2_putAside_15 : decode cX2_putAside 15 = .ok (.aload_n 0, 1) := by decide +kernel
theorem dX2_putAside_16 : decode cX2_putAside 16 = .ok (.iload_n 2, 1) := by decide +kernel
theorem dX2_putAside_17 : decode cX2_putAside 17 = .ok (.putfield 71, 3) := by decide +kernel
theorem dX2_putAside_20 : decode cX2_putAside 20 = .ok (.return_, 1) := by decide +kernel
set_option maxRecDepth 20000 in
theorem ggX2_sort_X2_isChute : GoodIn wsX2_sort wsX2_isChute := goodIn_r _ [6, 7, 8, 5, 9] (by decide +kernel) (by decide +kernel)
set_option maxRecDepth 20000 in
theorem gX2_sort_X2_isChute : GoodIn wsX2_sort (va_wsS RX2 74 yX2_isChute wsX2_isChute) := goodIn_app (goodIn_of _ (by decide +kernel)) ggX2_sort_X2_isChute
set_option maxRecDepth 20000 in
theorem ggX2_sort_X2_isWithin : GoodIn wsX2_sort wsX2_isWithin := goodIn_r _ [9] (by decide +kernel) (by decide +kernel)
set_option maxRecDepth 20000 in
theorem gX2_sort_X2_isWithin : GoodIn wsX2_sort (va_wsS RX2 42 yX2_isWithin wsX2_isWithin) := goodIn_app (goodIn_of _ (by decide +kernel)) ggX2_sort_X2_isWithin
set_option maxRecDepth 20000 in
theorem ggX2_sort_X2_many : GoodIn wsX2_sort wsX2_many := goodIn_r _ [13, 14, 15, 16, 17, 18, 19, 20, 21, 22, 23, 24, 25, 26, 27, 28, 29, 30, 31, 32, 33, 34] (by decide +kernel) (by decide +kernel)
set_option maxRecDepth 20000 in
theorem gX2_sort_X2_many : GoodIn wsX2_sort (wsV RX2 78 RX2 yX2_many wsX2_many) := goodIn_app (goodIn_of _ (by decide +kernel)) ggX2_sort_X2_many
theorem dX2_sort_0 : decode cX2_sort 0 = .ok (.aload_n 0, 1) := by decide +kernel
theorem dX2_sort_1 : decode cX2_sort 1 = .ok (.iload_n 1, 1) := by decide +kernel
theorem dX2_sort_2 : decode cX2_sort 2 = .ok (.invokestatic 74, 3) := by decide +kernel
theorem dX2_sort_5 : decode cX2_sort 5 = .ok (.ifCond .ne 7, 3) := by decide +kernel
theorem dX2_sort_8 : decode cX2_sort 8 = .ok (.iconst 1, 1) := by decide +kernel
theorem dX2_sort_9 : decode cX2_sort 9 = .ok (.goto 28, 3) := by decide +kernel
theorem dX2_sort_12 : decode cX2_sort 12 = .ok (.iload_n 2, 1) := by decide +kernel
theorem dX2_sort_13 : decode cX2_sort 13 = .ok (.iconst 4, 1) := by decide +kernel
theorem dX2_sort_14 : decode cX2_sort 14 = .ok (.invokestatic 42, 3) := by decide +kernel
theorem dX2_sort_17 : decode cX2_sort 17 = .ok (.ifCond .ne 7, 3) := by decide +kernel
theorem dX2_sort_20 : decode cX2_sort 20 = .ok (.iconst 2, 1) := by decide +kernel
theorem dX2_sort_21 : decode cX2_sort 21 = .ok (.goto 16, 3) := by decide +kernel
theorem dX2_sort_24 : decode cX2_sort 24 = .ok (.aload_n 0, 1) := by decide +kernel
theorem dX2_sort_25 : decode cX2_sort 25 = .ok (.iload_n 1, 1) := by decide +kernel
theorem dX2_sort_26 : decode cX2_sort 26 = .ok (.invokevirtual 78, 3) := by decide +kernel
theorem dX2_sort_29 : decode cX2_sort 29 = .ok (.ifCond .le 7, 3) := by decide +kernel
theorem dX2_sort_32 : decode cX2_sort 32 = .ok (.iconst 3, 1) := by decide +kernel
theorem dX2_sort_33 : decode cX2_sort 33 = .ok (.goto 4, 3) := by decide +kernel
theorem dX2_sort_36 : decode cX2_sort 36 = .ok (.iconst 0, 1) := by decide +kernel
theorem dX2_sort_37 : decode cX2_sort 37 = .ok (.putfield 38, 3) := by decide +kernel
theorem dX2_sort_40 : decode cX2_sort 40 = .ok (.aload_n 0, 1) := by decide +kernel
theorem dX2_sort_41 : decode cX2_sort 41 = .ok (.getfield 38, 3) := by decide +kernel
theorem dX2_sort_44 : decode cX2_sort 44 = .ok (.ifCond .eq 5, 3) := by decide +kernel
theorem dX2_sort_47 : decode cX2_sort 47 = .ok (.iconst 0, 1) := by decide +kernel
theorem dX2_sort_48 : decode cX2_sort 48 = .ok (.ireturn, 1) := by decide +kernel
theorem dX2_sort_49 : decode cX2_sort 49 = .ok (.aload_n 0, 1) := by decide +kernel
theorem dX2_sort_50 : decode cX2_sort 50 = .ok (.getfield 22, 3) := by decide +kernel
theorem dX2_sort_53 : decode cX2_sort 53 = .ok (.iload_n 1, 1) := by decide +kernel
theorem dX2_sort_54 : decode cX2_sort 54 = .ok (.iaload, 1) := by decide +kernel
theorem dX2_sort_55 : decode cX2_sort 55 = .ok (.istore_n 3, 1) := by decide +kernel
theorem dX2_sort_56 : decode cX2_sort 56 = .ok (.aload_n 0, 1) := by decide +kernel
theorem dX2_sort_57 : decode cX2_sort 57 = .ok (.getfield 22, 3) := by decide +kernel
theorem dX2_sort_60 : decode cX2_sort 60 = .ok (.iload_n 1, 1) := by decide +kernel
theorem dX2_sort_61 : decode cX2_sort 61 = .ok (.iload_n 2, 1) := by decide +kernel
theorem dX2_sort_62 : decode cX2_sort 62 = .ok (.iastore, 1) := by decide +kernel
theorem dX2_sort_63 : decode cX2_sort 63 = .ok (.iload_n 3, 1) := by decide +kernel
theorem dX2_sort_64 : decode cX2_sort 64 = .ok (.ireturn, 1) := by decide +kernel
set_option maxRecDepth 20000 in
theorem ggX2_limits_X2_isChute : GoodIn wsX2_limits wsX2_isChute := goodIn_r _ [9, 10, 11, 8, 12] (by decide +kernel) (by decide +kernel)
set_option maxRecDepth 20000 in
theorem gX2_limits_X2_isChute : GoodIn wsX2_limits (va_wsS RX2 74 yX2_isChute wsX2_isChute) := goodIn_app (goodIn_of _ (by decide +kernel)) ggX2_limits_X2_isChute
set_option maxRecDepth 20000 in
theorem ggX2_limits_X2_isWithin : GoodIn wsX2_limits wsX2_isWithin := goodIn_r _ [12] (by decide +kernel) (by decide +kernel)
set_option maxRecDepth 20000 in
theorem gX2_limits_X2_isWithin : GoodIn wsX2_limits (va_wsS RX2 42 yX2_isWithin wsX2_isWithin) := goodIn_app (goodIn_of _ (by decide +kernel)) ggX2_limits_X2_isWithin
set_option maxRecDepth 20000 in
theorem ggX2_limits_X2_holds : GoodIn wsX2_limits wsX2_holds := goodIn_r _ [15, 16, 17, 8, 18] (by decide +kernel) (by decide +kernel)
set_option maxRecDepth 20000 in
theorem gX2_limits_X2_holds : GoodIn wsX2_limits (va_wsS RX2 51 yX2_holds wsX2_holds) := goodIn_app (goodIn_of _ (by decide +kernel)) ggX2_limits_X2_holds
theorem dX2_limits_0 : decode cX2_limits 0 = .ok (.aload_n 0, 1) := by decide +kernel
theorem dX2_limits_1 : decode cX2_limits 1 = .ok (.iload_n 1, 1) := by decide +kernel
theorem dX2_limits_2 : decode cX2_limits 2 = .ok (.invokestatic 74, 3) := by decide +kernel
theorem dX2_limits_5 : decode cX2_limits 5 = .ok (.ifCond .ne 7, 3) := by decide +kernel
theorem dX2_limits_8 : decode cX2_limits 8 = .ok (.iconst 1, 1) := by decide +kernel
theorem dX2_limits_9 : decode cX2_limits 9 = .ok (.goto 50, 3) := by decide +kernel
theorem dX2_limits_12 : decode cX2_limits 12 = .ok (.iload_n 2, 1) := by decide +kernel
theorem dX2_limits_13 : decode cX2_limits 13 = .ok (.ldc 46, 2) := by decide +kernel
theorem dX2_limits_15 : decode cX2_limits 15 = .ok (.invokestatic 42, 3) := by decide +kernel
theorem dX2_limits_18 : decode cX2_limits 18 = .ok (.ifCond .eq 23, 3) := by decide +kernel
theorem dX2_limits_21 : decode cX2_limits 21 = .ok (.iload_n 3, 1) := by decide +kernel
theorem dX2_limits_22 : decode cX2_limits 22 = .ok (.ldc 46, 2) := by decide +kernel
theorem dX2_limits_24 : decode cX2_limits 24 = .ok (.invokestatic 42, 3) := by decide +kernel
theorem dX2_limits_27 : decode cX2_limits 27 = .ok (.ifCond .eq 14, 3) := by decide +kernel
theorem dX2_limits_30 : decode cX2_limits 30 = .ok (.iload 4, 2) := by decide +kernel
theorem dX2_limits_32 : decode cX2_limits 32 = .ok (.sipush 16000, 3) := by decide +kernel
theorem dX2_limits_35 : decode cX2_limits 35 = .ok (.invokestatic 42, 3) := by decide +kernel
theorem dX2_limits_38 : decode cX2_limits 38 = .ok (.ifCond .ne 7, 3) := by decide +kernel
theorem dX2_limits_41 : decode cX2_limits 41 = .ok (.iconst 2, 1) := by decide +kernel
theorem dX2_limits_42 : decode cX2_limits 42 = .ok (.goto 17, 3) := by decide +kernel
theorem dX2_limits_45 : decode cX2_limits 45 = .ok (.iload_n 3, 1) := by decide +kernel
theorem dX2_limits_46 : decode cX2_limits 46 = .ok (.iload_n 2, 1) := by decide +kernel
theorem dX2_limits_47 : decode cX2_limits 47 = .ok (.iconst 1, 1) := by decide +kernel
theorem dX2_limits_48 : decode cX2_limits 48 = .ok (.invokestatic 51, 3) := by decide +kernel
theorem dX2_limits_51 : decode cX2_limits 51 = .ok (.ifCond .eq 7, 3) := by decide +kernel
theorem dX2_limits_54 : decode cX2_limits 54 = .ok (.iconst 3, 1) := by decide +kernel
theorem dX2_limits_55 : decode cX2_limits 55 = .ok (.goto 4, 3) := by decide +kernel
theorem dX2_limits_58 : decode cX2_limits 58 = .ok (.iconst 0, 1) := by decide +kernel
theorem dX2_limits_59 : decode cX2_limits 59 = .ok (.putfield 38, 3) := by decide +kernel
theorem dX2_limits_62 : decode cX2_limits 62 = .ok (.aload_n 0, 1) := by decide +kernel
theorem dX2_limits_63 : decode cX2_limits 63 = .ok (.getfield 38, 3) := by decide +kernel
theorem dX2_limits_66 : decode cX2_limits 66 = .ok (.ifCond .eq 5, 3) := by decide +kernel
theorem dX2_limits_69 : decode cX2_limits 69 = .ok (.iconst 0, 1) := by decide +kernel
theorem dX2_limits_70 : decode cX2_limits 70 = .ok (.ireturn, 1) := by decide +kernel
theorem dX2_limits_71 : decode cX2_limits 71 = .ok (.aload_n 0, 1) := by decide +kernel
theorem dX2_limits_72 : decode cX2_limits 72 = .ok (.getfield 25, 3) := by decide +kernel
theorem dX2_limits_75 : decode cX2_limits 75 = .ok (.iload_n 1, 1) := by decide +kernel
theorem dX2_limits_76 : decode cX2_limits 76 = .ok (.iload_n 2, 1) := by decide +kernel
theorem dX2_limits_77 : decode cX2_limits 77 = .ok (.iastore, 1) := by decide +kernel
theorem dX2_limits_78 : decode cX2_limits 78 = .ok (.aload_n 0, 1) := by decide +kernel
theorem dX2_limits_79 : decode cX2_limits 79 = .ok (.getfield 28, 3) := by decide +kernel
theorem dX2_limits_82 : decode cX2_limits 82 = .ok (.iload_n 1, 1) := by decide +kernel
theorem dX2_limits_83 : decode cX2_limits 83 = .ok (.iload_n 3, 1) := by decide +kernel
theorem dX2_limits_84 : decode cX2_limits 84 = .ok (.iastore, 1) := by decide +kernel
theorem dX2_limits_85 : decode cX2_limits 85 = .ok (.aload_n 0, 1) := by decide +kernel
theorem dX2_limits_86 : decode cX2_limits 86 = .ok (.getfield 31, 3) := by decide +kernel
theorem dX2_limits_89 : decode cX2_limits 89 = .ok (.iload_n 1, 1) := by decide +kernel
theorem dX2_limits_90 : decode cX2_limits 90 = .ok (.iload 4, 2) := by decide +kernel
theorem dX2_limits_92 : decode cX2_limits 92 = .ok (.iastore, 1) := by decide +kernel
theorem dX2_limits_93 : decode cX2_limits 93 = .ok (.iload_n 2, 1) := by decide +kernel
theorem dX2_limits_94 : decode cX2_limits 94 = .ok (.ifCond .le 7, 3) := by decide +kernel
theorem dX2_limits_97 : decode cX2_limits 97 = .ok (.iconst 1, 1) := by decide +kernel
theorem dX2_limits_98 : decode cX2_limits 98 = .ok (.goto 4, 3) := by decide +kernel
theorem dX2_limits_101 : decode cX2_limits 101 = .ok (.iconst 0, 1) := by decide +kernel
theorem dX2_limits_102 : decode cX2_limits 102 = .ok (.iload_n 3, 1) := by decide +kernel
theorem dX2_limits_103 : decode cX2_limits 103 = .ok (.ifCond .le 7, 3) := by decide +kernel
theorem dX2_limits_106 : decode cX2_limits 106 = .ok (.iconst 1, 1) := by decide +kernel
theorem dX2_limits_107 : decode cX2_limits 107 = .ok (.goto 4, 3) := by decide +kernel
theorem dX2_limits_110 : decode cX2_limits 110 = .ok (.iconst 0, 1) := by decide +kernel
theorem dX2_limits_111 : decode cX2_limits 111 = .ok (.iadd, 1) := by decide +kernel
theorem dX2_limits_112 : decode cX2_limits 112 = .ok (.iload 4, 2) := by decide +kernel
theorem dX2_limits_114 : decode cX2_limits 114 = .ok (.ifCond .le 7, 3) := by decide +kernel
theorem dX2_limits_117 : decode cX2_limits 117 = .ok (.iconst 1, 1) := by decide +kernel
theorem dX2_limits_118 : decode cX2_limits 118 = .ok (.goto 4, 3) := by decide +kernel
theorem dX2_limits_121 : decode cX2_limits 121 = .ok (.iconst 0, 1) := by decide +kernel
theorem dX2_limits_122 : decode cX2_limits 122 = .ok (.iadd, 1) := by decide +kernel
theorem dX2_limits_123 : decode cX2_limits 123 = .ok (.ireturn, 1) := by decide +kernel
set_option maxRecDepth 20000 in
theorem ggX2_shut_X2_isChute : GoodIn wsX2_shut wsX2_isChute := goodIn_r _ [6, 7, 8, 5, 9] (by decide +kernel) (by decide +kernel)
set_option maxRecDepth 20000 in
theorem gX2_shut_X2_isChute : GoodIn wsX2_shut (va_wsS RX2 74 yX2_isChute wsX2_isChute) := goodIn_app (goodIn_of _ (by decide +kernel)) ggX2_shut_X2_isChute
theorem dX2_shut_0 : decode cX2_shut 0 = .ok (.aload_n 0, 1) := by decide +kernel
theorem dX2_shut_1 : decode cX2_shut 1 = .ok (.iload_n 1, 1) := by decide +kernel
theorem dX2_shut_2 : decode cX2_shut 2 = .ok (.invokestatic 74, 3) := by decide +kernel
theorem dX2_shut_5 : decode cX2_shut 5 = .ok (.ifCond .eq 7, 3) := by decide +kernel
theorem dX2_shut_8 : decode cX2_shut 8 = .ok (.iconst 0, 1) := by decide +kernel
theorem dX2_shut_9 : decode cX2_shut 9 = .ok (.goto 4, 3) := by decide +kernel
theorem dX2_shut_12 : decode cX2_shut 12 = .ok (.iconst 1, 1) := by decide +kernel
theorem dX2_shut_13 : decode cX2_shut 13 = .ok (.putfield 38, 3) := by decide +kernel
theorem dX2_shut_16 : decode cX2_shut 16 = .ok (.aload_n 0, 1) := by decide +kernel
theorem dX2_shut_17 : decode cX2_shut 17 = .ok (.getfield 38, 3) := by decide +kernel
theorem dX2_shut_20 : decode cX2_shut 20 = .ok (.ifCond .eq 5, 3) := by decide +kernel
theorem dX2_shut_23 : decode cX2_shut 23 = .ok (.iconst 0, 1) := by decide +kernel
theorem dX2_shut_24 : decode cX2_shut 24 = .ok (.ireturn, 1) := by decide +kernel
theorem dX2_shut_25 : decode cX2_shut 25 = .ok (.aload_n 0, 1) := by decide +kernel
theorem dX2_shut_26 : decode cX2_shut 26 = .ok (.getfield 34, 3) := by decide +kernel
theorem dX2_shut_29 : decode cX2_shut 29 = .ok (.iload_n 1, 1) := by decide +kernel
theorem dX2_shut_30 : decode cX2_shut 30 = .ok (.baload, 1) := by decide +kernel
theorem dX2_shut_31 : decode cX2_shut 31 = .ok (.istore_n 3, 1) := by decide +kernel
theorem dX2_shut_32 : decode cX2_shut 32 = .ok (.aload_n 0, 1) := by decide +kernel
theorem dX2_shut_33 : decode cX2_shut 33 = .ok (.getfield 34, 3) := by decide +kernel
theorem dX2_shut_36 : decode cX2_shut 36 = .ok (.iload_n 1, 1) := by decide +kernel
theorem dX2_shut_37 : decode cX2_shut 37 = .ok (.iload_n 2, 1) := by decide +kernel
theorem dX2_shut_38 : decode cX2_shut 38 = .ok (.bastore, 1) := by decide +kernel
theorem dX2_shut_39 : decode cX2_shut 39 = .ok (.iload_n 3, 1) := by decide +kernel
theorem dX2_shut_40 : decode cX2_shut 40 = .ok (.ireturn, 1) := by decide +kernel
set_option maxRecDepth 20000 in
theorem ggX2_gaugeAll_X2_holds : GoodIn wsX2_gaugeAll wsX2_holds := goodIn_r _ [10, 11, 12, 9, 13] (by decide +kernel) (by decide +kernel)
set_option maxRecDepth 20000 in
theorem gX2_gaugeAll_X2_holds : GoodIn wsX2_gaugeAll (va_wsS RX2 51 yX2_holds wsX2_holds) := goodIn_app (goodIn_of _ (by decide +kernel)) ggX2_gaugeAll_X2_holds
theorem dX2_gaugeAll_0 : decode cX2_gaugeAll 0 = .ok (.aload_n 0, 1) := by decide +kernel
theorem dX2_gaugeAll_1 : decode cX2_gaugeAll 1 = .ok (.aload_n 0, 1) := by decide +kernel
theorem dX2_gaugeAll_2 : decode cX2_gaugeAll 2 = .ok (.getfield 81, 3) := by decide +kernel
theorem dX2_gaugeAll_5 : decode cX2_gaugeAll 5 = .ok (.ifCond .le 19, 3) := by decide +kernel
theorem dX2_gaugeAll_8 : decode cX2_gaugeAll 8 = .ok (.iload_n 1, 1) := by decide +kernel
theorem dX2_gaugeAll_9 : decode cX2_gaugeAll 9 = .ok (.aload_n 0, 1) := by decide +kernel
theorem dX2_gaugeAll_10 : decode cX2_gaugeAll 10 = .ok (.getfield 84, 3) := by decide +kernel
theorem dX2_gaugeAll_13 : decode cX2_gaugeAll 13 = .ok (.iconst 1, 1) := by decide +kernel
theorem dX2_gaugeAll_14 : decode cX2_gaugeAll 14 = .ok (.invokestatic 51, 3) := by decide +kernel
theorem dX2_gaugeAll_17 : decode cX2_gaugeAll 17 = .ok (.ifCond .eq 7, 3) := by decide +kernel
theorem dX2_gaugeAll_20 : decode cX2_gaugeAll 20 = .ok (.iconst 1, 1) := by decide +kernel
theorem dX2_gaugeAll_21 : decode cX2_gaugeAll 21 = .ok (.goto 9, 3) := by decide +kernel
theorem dX2_gaugeAll_24 : decode cX2_gaugeAll 24 = .ok (.aload_n 0, 1) := by decide +kernel
theorem dX2_gaugeAll_25 : decode cX2_gaugeAll 25 = .ok (.getfield 87, 3) := by decide +kernel
theorem dX2_gaugeAll_28 : decode cX2_gaugeAll 28 = .ok (.iconst 1, 1) := by decide +kernel
theorem dX2_gaugeAll_29 : decode cX2_gaugeAll 29 = .ok (.iadd, 1) := by decide +kernel
theorem dX2_gaugeAll_30 : decode cX2_gaugeAll 30 = .ok (.putfield 87, 3) := by decide +kernel
theorem dX2_gaugeAll_33 : decode cX2_gaugeAll 33 = .ok (.aload_n 0, 1) := by decide +kernel
theorem dX2_gaugeAll_34 : decode cX2_gaugeAll 34 = .ok (.iload_n 1, 1) := by decide +kernel
theorem dX2_gaugeAll_35 : decode cX2_gaugeAll 35 = .ok (.putfield 84, 3) := by decide +kernel
theorem dX2_gaugeAll_38 : decode cX2_gaugeAll 38 = .ok (.aload_n 0, 1) := by decide +kernel
theorem dX2_gaugeAll_39 : decode cX2_gaugeAll 39 = .ok (.dup, 1) := by decide +kernel
theorem dX2_gaugeAll_40 : decode cX2_gaugeAll 40 = .ok (.getfield 81, 3) := by decide +kernel
theorem dX2_gaugeAll_43 : decode cX2_gaugeAll 43 = .ok (.iconst 1, 1) := by decide +kernel
theorem dX2_gaugeAll_44 : decode cX2_gaugeAll 44 = .ok (.iadd, 1) := by decide +kernel
theorem dX2_gaugeAll_45 : decode cX2_gaugeAll 45 = .ok (.putfield 81, 3) := by decide +kernel
theorem dX2_gaugeAll_48 : decode cX2_gaugeAll 48 = .ok (.aload_n 0, 1) := by decide +kernel
theorem dX2_gaugeAll_49 : decode cX2_gaugeAll 49 = .ok (.iload_n 1, 1) := by decide +kernel
theorem dX2_gaugeAll_50 : decode cX2_gaugeAll 50 = .ok (.ifCond .le 22, 3) := by decide +kernel
theorem dX2_gaugeAll_53 : decode cX2_gaugeAll 53 = .ok (.aload_n 0, 1) := by decide +kernel
theorem dX2_gaugeAll_54 : decode cX2_gaugeAll 54 = .ok (.getfield 90, 3) := by decide +kernel
theorem dX2_gaugeAll_57 : decode cX2_gaugeAll 57 = .ok (.ifCond .eq 11, 3) := by decide +kernel
theorem dX2_gaugeAll_60 : decode cX2_gaugeAll 60 = .ok (.iload_n 1, 1) := by decide +kernel
theorem dX2_gaugeAll_61 : decode cX2_gaugeAll 61 = .ok (.aload_n 0, 1) := by decide +kernel
theorem dX2_gaugeAll_62 : decode cX2_gaugeAll 62 = .ok (.getfield 90, 3) := by decide +kernel
theorem dX2_gaugeAll_65 : decode cX2_gaugeAll 65 = .ok (.if_icmp .ge 7, 3) := by decide +kernel
theorem dX2_gaugeAll_68 : decode cX2_gaugeAll 68 = .ok (.iload_n 1, 1) := by decide +kernel
theorem dX2_gaugeAll_69 : decode cX2_gaugeAll 69 = .ok (.goto 7, 3) := by decide +kernel
theorem dX2_gaugeAll_72 : decode cX2_gaugeAll 72 = .ok (.aload_n 0, 1) := by decide +kernel
theorem dX2_gaugeAll_73 : decode cX2_gaugeAll 73 = .ok (.getfield 90, 3) := by decide +kernel
theorem dX2_gaugeAll_76 : decode cX2_gaugeAll 76 = .ok (.putfield 90, 3) := by decide +kernel
theorem dX2_gaugeAll_79 : decode cX2_gaugeAll 79 = .ok (.aload_n 0, 1) := by decide +kernel
theorem dX2_gaugeAll_80 : decode cX2_gaugeAll 80 = .ok (.iload_n 1, 1) := by decide +kernel
theorem dX2_gaugeAll_81 : decode cX2_gaugeAll 81 = .ok (.aload_n 0, 1) := by decide +kernel
theorem dX2_gaugeAll_82 : decode cX2_gaugeAll 82 = .ok (.getfield 93, 3) := by decide +kernel
theorem dX2_gaugeAll_85 : decode cX2_gaugeAll 85 = .ok (.if_icmp .le 7, 3) := by decide +kernel
theorem dX2_gaugeAll_88 : decode cX2_gaugeAll 88 = .ok (.iload_n 1, 1) := by decide +kernel
theorem dX2_gaugeAll_89 : decode cX2_gaugeAll 89 = .ok (.goto 7, 3) := by decide +kernel
theorem dX2_gaugeAll_92 : decode cX2_gaugeAll 92 = .ok (.aload_n 0, 1) := by decide +kernel
theorem dX2_gaugeAll_93 : decode cX2_gaugeAll 93 = .ok (.getfield 93, 3) := by decide +kernel
theorem dX2_gaugeAll_96 : decode cX2_gaugeAll 96 = .ok (.putfield 93, 3) := by decide +kernel
theorem dX2_gaugeAll_99 : decode cX2_gaugeAll 99 = .ok (.aload_n 0, 1) := by decide +kernel
theorem dX2_gaugeAll_100 : decode cX2_gaugeAll 100 = .ok (.iload_n 2, 1) := by decide +kernel
theorem dX2_gaugeAll_101 : decode cX2_gaugeAll 101 = .ok (.aload_n 0, 1) := by decide +kernel
theorem dX2_gaugeAll_102 : decode cX2_gaugeAll 102 = .ok (.getfield 96, 3) := by decide +kernel
theorem dX2_gaugeAll_105 : decode cX2_gaugeAll 105 = .ok (.if_icmp .le 7, 3) := by decide +kernel
theorem dX2_gaugeAll_108 : decode cX2_gaugeAll 108 = .ok (.iload_n 2, 1) := by decide +kernel
theorem dX2_gaugeAll_109 : decode cX2_gaugeAll 109 = .ok (.goto 7, 3) := by decide +kernel
theorem dX2_gaugeAll_112 : decode cX2_gaugeAll 112 = .ok (.aload_n 0, 1) := by decide +kernel
theorem dX2_gaugeAll_113 : decode cX2_gaugeAll 113 = .ok (.getfield 96, 3) := by decide +kernel
theorem dX2_gaugeAll_116 : decode cX2_gaugeAll 116 = .ok (.putfield 96, 3) := by decide +kernel
theorem dX2_gaugeAll_119 : decode cX2_gaugeAll 119 = .ok (.return_, 1) := by decide +kernel
set_option maxRecDepth 20000 in
theorem ggX2_send_X2_isParcel : GoodIn wsX2_send wsX2_isParcel := goodIn_r _ [6, 7, 8, 9, 5, 10] (by decide +kernel) (by decide +kernel)
set_option maxRecDepth 20000 in
theorem gX2_send_X2_isParcel : GoodIn wsX2_send (va_wsS RX2 99 yX2_isParcel wsX2_isParcel) := goodIn_app (goodIn_of _ (by decide +kernel)) ggX2_send_X2_isParcel
set_option maxRecDepth 20000 in
theorem ggX2_send_X2_gaugeAll : GoodIn wsX2_send wsX2_gaugeAll := goodIn_r _ [14, 15, 16, 17, 18, 19, 20, 21, 22, 5, 23, 24, 25, 26, 55, 56, 57, 58, 59, 60, 61, 62, 63, 64, 65, 66, 67, 68, 69, 70, 71, 72, 73, 74] (by decide +kernel) (by decide +kernel)
set_option maxRecDepth 20000 in
theorem gX2_send_X2_gaugeAll : GoodIn wsX2_send (wsV RX2 102 RX2 yX2_gaugeAll wsX2_gaugeAll) := goodIn_app (goodIn_of _ (by decide +kernel)) ggX2_send_X2_gaugeAll
set_option maxRecDepth 20000 in
theorem ggX2_send_X2_many : GoodIn wsX2_send wsX2_many := goodIn_r _ [30, 31, 55, 56, 57, 58, 59, 60, 61, 62, 63, 64, 65, 66, 67, 68, 69, 70, 71, 72, 73, 74] (by decide +kernel) (by decide +kernel)
set_option maxRecDepth 20000 in
theorem gX2_send_X2_many : GoodIn wsX2_send (wsV RX2 78 RX2 yX2_many wsX2_many) := goodIn_app (goodIn_of _ (by decide +kernel)) ggX2_send_X2_many
set_option maxRecDepth 20000 in
theorem ggX2_send_X2_fitsChute : GoodIn wsX2_send wsX2_fitsChute := goodIn_r _ [35, 36, 37, 38, 39, 21, 22, 5, 23, 24, 25, 26, 55, 56, 57, 58, 59, 60, 61, 62, 63, 64, 65, 66, 67, 68, 69, 70, 71, 72, 73, 74] (by decide +kernel) (by decide +kernel)
set_option maxRecDepth 20000 in
theorem gX2_send_X2_fitsChute : GoodIn wsX2_send (wsV RX2 106 RX2 yX2_fitsChute wsX2_fitsChute) := goodIn_app (goodIn_of _ (by decide +kernel)) ggX2_send_X2_fitsChute
set_option maxRecDepth 20000 in
theorem ggX2_send_X2_putIn : GoodIn wsX2_send wsX2_putIn := goodIn_r _ [43, 31, 44, 45, 46, 47, 55, 56, 57, 58, 59, 60, 61, 62, 63, 64, 65, 66, 67, 68, 69, 70, 71, 72, 73, 74] (by decide +kernel) (by decide +kernel)
set_option maxRecDepth 20000 in
theorem gX2_send_X2_putIn : GoodIn wsX2_send (wsV RX2 109 RX2 yX2_putIn wsX2_putIn) := goodIn_app (goodIn_of _ (by decide +kernel)) ggX2_send_X2_putIn
set_option maxRecDepth 20000 in
theorem ggX2_send_X2_putAside : GoodIn wsX2_send wsX2_putAside := goodIn_r _ [51, 52, 53, 54, 55, 56, 57, 58, 59, 60, 61, 62, 63, 64, 65, 66, 67, 68, 69, 70, 71, 72, 73, 74] (by decide +kernel) (by decide +kernel)
set_option maxRecDepth 20000 in
theorem gX2_send_X2_putAside : GoodIn wsX2_send (wsV RX2 113 RX2 yX2_putAside wsX2_putAside) := goodIn_app (goodIn_of _ (by decide +kernel)) ggX2_send_X2_putAside
theorem dX2_send_0 : decode cX2_send 0 = .ok (.aload_n 0, 1) := by decide +kernel
theorem dX2_send_1 : decode cX2_send 1 = .ok (.iload_n 1, 1) := by decide +kernel
theorem dX2_send_2 : decode cX2_send 2 = .ok (.iload_n 2, 1) := by decide +kernel
theorem dX2_send_3 : decode cX2_send 3 = .ok (.invokestatic 99, 3) := by decide +kernel
theorem dX2_send_6 : decode cX2_send 6 = .ok (.ifCond .eq 7, 3) := by decide +kernel
theorem dX2_send_9 : decode cX2_send 9 = .ok (.iconst 0, 1) := by decide +kernel
theorem dX2_send_10 : decode cX2_send 10 = .ok (.goto 4, 3) := by decide +kernel
theorem dX2_send_13 : decode cX2_send 13 = .ok (.iconst 1, 1) := by decide +kernel
theorem dX2_send_14 : decode cX2_send 14 = .ok (.putfield 38, 3) := by decide +kernel
theorem dX2_send_17 : decode cX2_send 17 = .ok (.aload_n 0, 1) := by decide +kernel
theorem dX2_send_18 : decode cX2_send 18 = .ok (.getfield 38, 3) := by decide +kernel
theorem dX2_send_21 : decode cX2_send 21 = .ok (.ifCond .eq 5, 3) := by decide +kernel
theorem dX2_send_24 : decode cX2_send 24 = .ok (.iconst 0, 1) := by decide +kernel
theorem dX2_send_25 : decode cX2_send 25 = .ok (.ireturn, 1) := by decide +kernel
theorem dX2_send_26 : decode cX2_send 26 = .ok (.aload_n 0, 1) := by decide +kernel
theorem dX2_send_27 : decode cX2_send 27 = .ok (.iload_n 1, 1) := by decide +kernel
theorem dX2_send_28 : decode cX2_send 28 = .ok (.iload_n 2, 1) := by decide +kernel
theorem dX2_send_29 : decode cX2_send 29 = .ok (.invokevirtual 102, 3) := by decide +kernel
theorem dX2_send_32 : decode cX2_send 32 = .ok (.iconst 0, 1) := by decide +kernel
theorem dX2_send_33 : decode cX2_send 33 = .ok (.istore_n 3, 1) := by decide +kernel
theorem dX2_send_34 : decode cX2_send 34 = .ok (.iload_n 3, 1) := by decide +kernel
theorem dX2_send_35 : decode cX2_send 35 = .ok (.bipush 8, 2) := by decide +kernel
theorem dX2_send_37 : decode cX2_send 37 = .ok (.if_icmp .ge 47, 3) := by decide +kernel
theorem dX2_send_40 : decode cX2_send 40 = .ok (.aload_n 0, 1) := by decide +kernel
theorem dX2_send_41 : decode cX2_send 41 = .ok (.getfield 34, 3) := by decide +kernel
theorem dX2_send_44 : decode cX2_send 44 = .ok (.iload_n 3, 1) := by decide +kernel
theorem dX2_send_45 : decode cX2_send 45 = .ok (.baload, 1) := by decide +kernel
theorem dX2_send_46 : decode cX2_send 46 = .ok (.ifCond .ne 32, 3) := by decide +kernel
theorem dX2_send_49 : decode cX2_send 49 = .ok (.aload_n 0, 1) := by decide +kernel
theorem dX2_send_50 : decode cX2_send 50 = .ok (.iload_n 3, 1) := by decide +kernel
theorem dX2_send_51 : decode cX2_send 51 = .ok (.invokevirtual 78, 3) := by decide +kernel
theorem dX2_send_54 : decode cX2_send 54 = .ok (.bipush 12, 2) := by decide +kernel
theorem dX2_send_56 : decode cX2_send 56 = .ok (.if_icmp .ge 22, 3) := by decide +kernel
theorem dX2_send_59 : decode cX2_send 59 = .ok (.aload_n 0, 1) := by decide +kernel
theorem dX2_send_60 : decode cX2_send 60 = .ok (.iload_n 1, 1) := by decide +kernel
theorem dX2_send_61 : decode cX2_send 61 = .ok (.iload_n 2, 1) := by decide +kernel
theorem dX2_send_62 : decode cX2_send 62 = .ok (.iload_n 3, 1) := by decide +kernel
theorem dX2_send_63 : decode cX2_send 63 = .ok (.invokevirtual 106, 3) := by decide +kernel
theorem dX2_send_66 : decode cX2_send 66 = .ok (.ifCond .eq 12, 3) := by decide +kernel
theorem dX2_send_69 : decode cX2_send 69 = .ok (.aload_n 0, 1) := by decide +kernel
theorem dX2_send_70 : decode cX2_send 70 = .ok (.iload_n 1, 1) := by decide +kernel
theorem dX2_send_71 : decode cX2_send 71 = .ok (.iload_n 2, 1) := by decide +kernel
theorem dX2_send_72 : decode cX2_send 72 = .ok (.iload_n 3, 1) := by decide +kernel
theorem dX2_send_73 : decode cX2_send 73 = .ok (.invokevirtual 109, 3) := by decide +kernel
theorem dX2_send_76 : decode cX2_send 76 = .ok (.iload_n 3, 1) := by decide +kernel
theorem dX2_send_77 : decode cX2_send 77 = .ok (.ireturn, 1) := by decide +kernel
theorem dX2_send_78 : decode cX2_send 78 = .ok (.iinc 3 1, 3) := by decide +kernel
theorem dX2_send_81 : decode cX2_send 81 = .ok (.goto (-47), 3) := by decide +kernel
theorem dX2_send_84 : decode cX2_send 84 = .ok (.aload_n 0, 1) := by decide +kernel
theorem dX2_send_85 : decode cX2_send 85 = .ok (.iload_n 1, 1) := by decide +kernel
theorem dX2_send_86 : decode cX2_send 86 = .ok (.iload_n 2, 1) := by decide +kernel
theorem dX2_send_87 : decode cX2_send 87 = .ok (.invokevirtual 113, 3) := by decide +kernel
theorem dX2_send_90 : decode cX2_send 90 = .ok (.iconst (-1), 1) := by decide +kernel
theorem dX2_send_91 : decode cX2_send 91 = .ok (.ireturn, 1) := by decide +kernel
set_option maxRecDepth 20000 in
theorem ggX2_fits_X2_isParcel : GoodIn wsX2_fits wsX2_isParcel := goodIn_r _ [5, 6, 7, 8, 4, 9] (by decide +kernel) (by decide +kernel)
set_option maxRecDepth 20000 in
theorem gX2_fits_X2_isParcel : GoodIn wsX2_fits (va_wsS RX2 99 yX2_isParcel wsX2_isParcel) := goodIn_app (goodIn_of _ (by decide +kernel)) ggX2_fits_X2_isParcel
set_option maxRecDepth 20000 in
theorem ggX2_fits_X2_fitsChute : GoodIn wsX2_fits wsX2_fitsChute := goodIn_r _ [13, 14, 15, 16, 17, 18, 19, 4, 20, 21, 22, 23, 24, 25, 26, 27, 28, 29, 30, 31, 32, 33, 34, 35, 36, 37, 38, 39, 40, 41, 42, 43] (by decide +kernel) (by decide +kernel)
set_option maxRecDepth 20000 in
theorem gX2_fits_X2_fitsChute : GoodIn wsX2_fits (wsV RX2 106 RX2 yX2_fitsChute wsX2_fitsChute) := goodIn_app (goodIn_of _ (by decide +kernel)) ggX2_fits_X2_fitsChute
theorem dX2_fits_0 : decode cX2_fits 0 = .ok (.aload_n 0, 1) := by decide +kernel
theorem dX2_fits_1 : decode cX2_fits 1 = .ok (.iload_n 1, 1) := by decide +kernel
theorem dX2_fits_2 : decode cX2_fits 2 = .ok (.iload_n 2, 1) := by decide +kernel
theorem dX2_fits_3 : decode cX2_fits 3 = .ok (.invokestatic 99, 3) := by decide +kernel
theorem dX2_fits_6 : decode cX2_fits 6 = .ok (.ifCond .eq 7, 3) := by decide +kernel
theorem dX2_fits_9 : decode cX2_fits 9 = .ok (.iconst 0, 1) := by decide +kernel
theorem dX2_fits_10 : decode cX2_fits 10 = .ok (.goto 4, 3) := by decide +kernel
theorem dX2_fits_13 : decode cX2_fits 13 = .ok (.iconst 1, 1) := by decide +kernel
theorem dX2_fits_14 : decode cX2_fits 14 = .ok (.putfield 38, 3) := by decide +kernel
theorem dX2_fits_17 : decode cX2_fits 17 = .ok (.iconst 0, 1) := by decide +kernel
theorem dX2_fits_18 : decode cX2_fits 18 = .ok (.istore_n 3, 1) := by decide +kernel
theorem dX2_fits_19 : decode cX2_fits 19 = .ok (.iconst 0, 1) := by decide +kernel
theorem dX2_fits_20 : decode cX2_fits 20 = .ok (.istore 4, 2) := by decide +kernel
theorem dX2_fits_22 : decode cX2_fits 22 = .ok (.iload 4, 2) := by decide +kernel
theorem dX2_fits_24 : decode cX2_fits 24 = .ok (.bipush 8, 2) := by decide +kernel
theorem dX2_fits_26 : decode cX2_fits 26 = .ok (.if_icmp .ge 38, 3) := by decide +kernel
theorem dX2_fits_29 : decode cX2_fits 29 = .ok (.aload_n 0, 1) := by decide +kernel
theorem dX2_fits_30 : decode cX2_fits 30 = .ok (.getfield 38, 3) := by decide +kernel
theorem dX2_fits_33 : decode cX2_fits 33 = .ok (.ifCond .ne 31, 3) := by decide +kernel
theorem dX2_fits_36 : decode cX2_fits 36 = .ok (.iload_n 3, 1) := by decide +kernel
theorem dX2_fits_37 : decode cX2_fits 37 = .ok (.aload_n 0, 1) := by decide +kernel
theorem dX2_fits_38 : decode cX2_fits 38 = .ok (.iload_n 1, 1) := by decide +kernel
theorem dX2_fits_39 : decode cX2_fits 39 = .ok (.iload_n 2, 1) := by decide +kernel
theorem dX2_fits_40 : decode cX2_fits 40 = .ok (.iload 4, 2) := by decide +kernel
theorem dX2_fits_42 : decode cX2_fits 42 = .ok (.invokevirtual 106, 3) := by decide +kernel
theorem dX2_fits_45 : decode cX2_fits 45 = .ok (.ifCond .eq 10, 3) := by decide +kernel
theorem dX2_fits_48 : decode cX2_fits 48 = .ok (.iconst 1, 1) := by decide +kernel
theorem dX2_fits_49 : decode cX2_fits 49 = .ok (.iload 4, 2) := by decide +kernel
theorem dX2_fits_51 : decode cX2_fits 51 = .ok (.ishl, 1) := by decide +kernel
theorem dX2_fits_52 : decode cX2_fits 52 = .ok (.goto 4, 3) := by decide +kernel
theorem dX2_fits_55 : decode cX2_fits 55 = .ok (.iconst 0, 1) := by decide +kernel
theorem dX2_fits_56 : decode cX2_fits 56 = .ok (.ior, 1) := by decide +kernel
theorem dX2_fits_57 : decode cX2_fits 57 = .ok (.istore_n 3, 1) := by decide +kernel
theorem dX2_fits_58 : decode cX2_fits 58 = .ok (.iinc 4 1, 3) := by decide +kernel
theorem dX2_fits_61 : decode cX2_fits 61 = .ok (.goto (-39), 3) := by decide +kernel
theorem dX2_fits_64 : decode cX2_fits 64 = .ok (.iload_n 3, 1) := by decide +kernel
theorem dX2_fits_65 : decode cX2_fits 65 = .ok (.ireturn, 1) := by decide +kernel
set_option maxRecDepth 20000 in
theorem ggX2_signs_X2_isChute : GoodIn wsX2_signs wsX2_isChute := goodIn_r _ [9, 10, 11, 8, 12] (by decide +kernel) (by decide +kernel)
set_option maxRecDepth 20000 in
theorem gX2_signs_X2_isChute : GoodIn wsX2_signs (va_wsS RX2 74 yX2_isChute wsX2_isChute) := goodIn_app (goodIn_of _ (by decide +kernel)) ggX2_signs_X2_isChute
set_option maxRecDepth 20000 in
theorem ggX2_signs_X2_isWithin : GoodIn wsX2_signs wsX2_isWithin := goodIn_r _ [12] (by decide +kernel) (by decide +kernel)
set_option maxRecDepth 20000 in
theorem gX2_signs_X2_isWithin : GoodIn wsX2_signs (va_wsS RX2 42 yX2_isWithin wsX2_isWithin) := goodIn_app (goodIn_of _ (by decide +kernel)) ggX2_signs_X2_isWithin
set_option maxRecDepth 20000 in
theorem ggX2_signs_X2_signsOf : GoodIn wsX2_signs wsX2_signsOf := goodIn_r _ [15] (by decide +kernel) (by decide +kernel)
set_option maxRecDepth 20000 in
theorem gX2_signs_X2_signsOf : GoodIn wsX2_signs (va_wsS RX2 47 yX2_signsOf wsX2_signsOf) := goodIn_app (goodIn_of _ (by decide +kernel)) ggX2_signs_X2_signsOf
theorem dX2_signs_0 : decode cX2_signs 0 = .ok (.aload_n 0, 1) := by decide +kernel
theorem dX2_signs_1 : decode cX2_signs 1 = .ok (.iload_n 1, 1) := by decide +kernel
theorem dX2_signs_2 : decode cX2_signs 2 = .ok (.invokestatic 74, 3) := by decide +kernel
theorem dX2_signs_5 : decode cX2_signs 5 = .ok (.ifCond .ne 7, 3) := by decide +kernel
theorem dX2_signs_8 : decode cX2_signs 8 = .ok (.iconst 1, 1) := by decide +kernel
theorem dX2_signs_9 : decode cX2_signs 9 = .ok (.goto 36, 3) := by decide +kernel
theorem dX2_signs_12 : decode cX2_signs 12 = .ok (.iload_n 2, 1) := by decide +kernel
theorem dX2_signs_13 : decode cX2_signs 13 = .ok (.iconst 2, 1) := by decide +kernel
theorem dX2_signs_14 : decode cX2_signs 14 = .ok (.invokestatic 42, 3) := by decide +kernel
theorem dX2_signs_17 : decode cX2_signs 17 = .ok (.ifCond .eq 23, 3) := by decide +kernel
theorem dX2_signs_20 : decode cX2_signs 20 = .ok (.iload_n 3, 1) := by decide +kernel
theorem dX2_signs_21 : decode cX2_signs 21 = .ok (.iload_n 2, 1) := by decide +kernel
theorem dX2_signs_22 : decode cX2_signs 22 = .ok (.iconst 2, 1) := by decide +kernel
theorem dX2_signs_23 : decode cX2_signs 23 = .ok (.if_icmp .ne 9, 3) := by decide +kernel
theorem dX2_signs_26 : decode cX2_signs 26 = .ok (.sipush 16000, 3) := by decide +kernel
theorem dX2_signs_29 : decode cX2_signs 29 = .ok (.goto 5, 3) := by decide +kernel
theorem dX2_signs_32 : decode cX2_signs 32 = .ok (.ldc 46, 2) := by decide +kernel
theorem dX2_signs_34 : decode cX2_signs 34 = .ok (.invokestatic 42, 3) := by decide +kernel
theorem dX2_signs_37 : decode cX2_signs 37 = .ok (.ifCond .ne 7, 3) := by decide +kernel
theorem dX2_signs_40 : decode cX2_signs 40 = .ok (.iconst 2, 1) := by decide +kernel
theorem dX2_signs_41 : decode cX2_signs 41 = .ok (.goto 4, 3) := by decide +kernel
theorem dX2_signs_44 : decode cX2_signs 44 = .ok (.iconst 0, 1) := by decide +kernel
theorem dX2_signs_45 : decode cX2_signs 45 = .ok (.putfield 38, 3) := by decide +kernel
theorem dX2_signs_48 : decode cX2_signs 48 = .ok (.aload_n 0, 1) := by decide +kernel
theorem dX2_signs_49 : decode cX2_signs 49 = .ok (.getfield 38, 3) := by decide +kernel
theorem dX2_signs_52 : decode cX2_signs 52 = .ok (.ifCond .eq 5, 3) := by decide +kernel
theorem dX2_signs_55 : decode cX2_signs 55 = .ok (.iconst 0, 1) := by decide +kernel
theorem dX2_signs_56 : decode cX2_signs 56 = .ok (.ireturn, 1) := by decide +kernel
theorem dX2_signs_57 : decode cX2_signs 57 = .ok (.iload_n 3, 1) := by decide +kernel
theorem dX2_signs_58 : decode cX2_signs 58 = .ok (.iload_n 2, 1) := by decide +kernel
theorem dX2_signs_59 : decode cX2_signs 59 = .ok (.ifCond .ne 12, 3) := by decide +kernel
theorem dX2_signs_62 : decode cX2_signs 62 = .ok (.aload_n 0, 1) := by decide +kernel
theorem dX2_signs_63 : decode cX2_signs 63 = .ok (.getfield 25, 3) := by decide +kernel
theorem dX2_signs_66 : decode cX2_signs 66 = .ok (.iload_n 1, 1) := by decide +kernel
theorem dX2_signs_67 : decode cX2_signs 67 = .ok (.iaload, 1) := by decide +kernel
theorem dX2_signs_68 : decode cX2_signs 68 = .ok (.goto 23, 3) := by decide +kernel
theorem dX2_signs_71 : decode cX2_signs 71 = .ok (.iload_n 2, 1) := by decide +kernel
theorem dX2_signs_72 : decode cX2_signs 72 = .ok (.iconst 1, 1) := by decide +kernel
theorem dX2_signs_73 : decode cX2_signs 73 = .ok (.if_icmp .ne 12, 3) := by decide +kernel
theorem dX2_signs_76 : decode cX2_signs 76 = .ok (.aload_n 0, 1) := by decide +kernel
theorem dX2_signs_77 : decode cX2_signs 77 = .ok (.getfield 28, 3) := by decide +kernel
theorem dX2_signs_80 : decode cX2_signs 80 = .ok (.iload_n 1, 1) := by decide +kernel
theorem dX2_signs_81 : decode cX2_signs 81 = .ok (.iaload, 1) := by decide +kernel
theorem dX2_signs_82 : decode cX2_signs 82 = .ok (.goto 9, 3) := by decide +kernel
theorem dX2_signs_85 : decode cX2_signs 85 = .ok (.aload_n 0, 1) := by decide +kernel
theorem dX2_signs_86 : decode cX2_signs 86 = .ok (.getfield 31, 3) := by decide +kernel
theorem dX2_signs_89 : decode cX2_signs 89 = .ok (.iload_n 1, 1) := by decide +kernel
theorem dX2_signs_90 : decode cX2_signs 90 = .ok (.iaload, 1) := by decide +kernel
theorem dX2_signs_91 : decode cX2_signs 91 = .ok (.invokestatic 47, 3) := by decide +kernel
theorem dX2_signs_94 : decode cX2_signs 94 = .ok (.ireturn, 1) := by decide +kernel
theorem dX2_unknownIn_0 : decode cX2_unknownIn 0 = .ok (.iconst 0, 1) := by decide +kernel
theorem dX2_unknownIn_1 : decode cX2_unknownIn 1 = .ok (.istore_n 3, 1) := by decide +kernel
theorem dX2_unknownIn_2 : decode cX2_unknownIn 2 = .ok (.iconst 0, 1) := by decide +kernel
theorem dX2_unknownIn_3 : decode cX2_unknownIn 3 = .ok (.istore 4, 2) := by decide +kernel
theorem dX2_unknownIn_5 : decode cX2_unknownIn 5 = .ok (.iload 4, 2) := by decide +kernel
theorem dX2_unknownIn_7 : decode cX2_unknownIn 7 = .ok (.bipush 96, 2) := by decide +kernel
theorem dX2_unknownIn_9 : decode cX2_unknownIn 9 = .ok (.if_icmp .ge 52, 3) := by decide +kernel
theorem dX2_unknownIn_12 : decode cX2_unknownIn 12 = .ok (.iload_n 3, 1) := by decide +kernel
theorem dX2_unknownIn_13 : decode cX2_unknownIn 13 = .ok (.aload_n 0, 1) := by decide +kernel
theorem dX2_unknownIn_14 : decode cX2_unknownIn 14 = .ok (.getfield 7, 3) := by decide +kernel
theorem dX2_unknownIn_17 : decode cX2_unknownIn 17 = .ok (.iload 4, 2) := by decide +kernel
theorem dX2_unknownIn_19 : decode cX2_unknownIn 19 = .ok (.iaload, 1) := by decide +kernel
theorem dX2_unknownIn_20 : decode cX2_unknownIn 20 = .ok (.iload_n 1, 1) := by decide +kernel
theorem dX2_unknownIn_21 : decode cX2_unknownIn 21 = .ok (.if_icmp .ne 31, 3) := by decide +kernel
theorem dX2_unknownIn_24 : decode cX2_unknownIn 24 = .ok (.iload_n 2, 1) := by decide +kernel
theorem dX2_unknownIn_25 : decode cX2_unknownIn 25 = .ok (.ifCond .eq 13, 3) := by decide +kernel
theorem dX2_unknownIn_28 : decode cX2_unknownIn 28 = .ok (.aload_n 0, 1) := by decide +kernel
theorem dX2_unknownIn_29 : decode cX2_unknownIn 29 = .ok (.getfield 16, 3) := by decide +kernel
theorem dX2_unknownIn_32 : decode cX2_unknownIn 32 = .ok (.iload 4, 2) := by decide +kernel
theorem dX2_unknownIn_34 : decode cX2_unknownIn 34 = .ok (.iaload, 1) := by decide +kernel
theorem dX2_unknownIn_35 : decode cX2_unknownIn 35 = .ok (.goto 10, 3) := by decide +kernel
theorem dX2_unknownIn_38 : decode cX2_unknownIn 38 = .ok (.aload_n 0, 1) := by decide +kernel
theorem dX2_unknownIn_39 : decode cX2_unknownIn 39 = .ok (.getfield 13, 3) := by decide +kernel
theorem dX2_unknownIn_42 : decode cX2_unknownIn 42 = .ok (.iload 4, 2) := by decide +kernel
theorem dX2_unknownIn_44 : decode cX2_unknownIn 44 = .ok (.iaload, 1) := by decide +kernel
theorem dX2_unknownIn_45 : decode cX2_unknownIn 45 = .ok (.ifCond .ne 7, 3) := by decide +kernel
theorem dX2_unknownIn_48 : decode cX2_unknownIn 48 = .ok (.iconst 1, 1) := by decide +kernel
theorem dX2_unknownIn_49 : decode cX2_unknownIn 49 = .ok (.goto 4, 3) := by decide +kernel
theorem dX2_unknownIn_52 : decode cX2_unknownIn 52 = .ok (.iconst 0, 1) := by decide +kernel
theorem dX2_unknownIn_53 : decode cX2_unknownIn 53 = .ok (.iadd, 1) := by decide +kernel
theorem dX2_unknownIn_54 : decode cX2_unknownIn 54 = .ok (.istore_n 3, 1) := by decide +kernel
theorem dX2_unknownIn_55 : decode cX2_unknownIn 55 = .ok (.iinc 4 1, 3) := by decide +kernel
theorem dX2_unknownIn_58 : decode cX2_unknownIn 58 = .ok (.goto (-53), 3) := by decide +kernel
theorem dX2_unknownIn_61 : decode cX2_unknownIn 61 = .ok (.iload_n 3, 1) := by decide +kernel
theorem dX2_unknownIn_62 : decode cX2_unknownIn 62 = .ok (.ireturn, 1) := by decide +kernel
set_option maxRecDepth 20000 in
theorem ggX2_chute_X2_isChute : GoodIn wsX2_chute wsX2_isChute := goodIn_r _ [10, 11, 12, 9, 13] (by decide +kernel) (by decide +kernel)
set_option maxRecDepth 20000 in
theorem gX2_chute_X2_isChute : GoodIn wsX2_chute (va_wsS RX2 74 yX2_isChute wsX2_isChute) := goodIn_app (goodIn_of _ (by decide +kernel)) ggX2_chute_X2_isChute
set_option maxRecDepth 20000 in
theorem ggX2_chute_X2_isWithin : GoodIn wsX2_chute wsX2_isWithin := goodIn_r _ [13] (by decide +kernel) (by decide +kernel)
set_option maxRecDepth 20000 in
theorem gX2_chute_X2_isWithin : GoodIn wsX2_chute (va_wsS RX2 42 yX2_isWithin wsX2_isWithin) := goodIn_app (goodIn_of _ (by decide +kernel)) ggX2_chute_X2_isWithin
set_option maxRecDepth 20000 in
theorem ggX2_chute_X2_many : GoodIn wsX2_chute wsX2_many := goodIn_r _ [17, 18, 25, 26, 27, 28, 29, 30, 31, 32, 33, 34, 35, 36, 37, 38, 39, 40, 41, 42, 43, 44] (by decide +kernel) (by decide +kernel)
set_option maxRecDepth 20000 in
theorem gX2_chute_X2_many : GoodIn wsX2_chute (wsV RX2 78 RX2 yX2_many wsX2_many) := goodIn_app (goodIn_of _ (by decide +kernel)) ggX2_chute_X2_many
set_option maxRecDepth 20000 in
theorem ggX2_chute_X2_unknownIn : GoodIn wsX2_chute wsX2_unknownIn := goodIn_r _ [22, 18, 23, 24, 25, 26, 27, 28, 29, 30, 31, 32, 33, 34, 35, 36, 37, 38, 39, 40, 41, 42, 43, 44] (by decide +kernel) (by decide +kernel)
set_option maxRecDepth 20000 in
theorem gX2_chute_X2_unknownIn : GoodIn wsX2_chute (wsV RX2 116 RX2 yX2_unknownIn wsX2_unknownIn) := goodIn_app (goodIn_of _ (by decide +kernel)) ggX2_chute_X2_unknownIn
theorem dX2_chute_0 : decode cX2_chute 0 = .ok (.aload_n 0, 1) := by decide +kernel
theorem dX2_chute_1 : decode cX2_chute 1 = .ok (.iload_n 1, 1) := by decide +kernel
theorem dX2_chute_2 : decode cX2_chute 2 = .ok (.invokestatic 74, 3) := by decide +kernel
theorem dX2_chute_5 : decode cX2_chute 5 = .ok (.ifCond .ne 7, 3) := by decide +kernel
theorem dX2_chute_8 : decode cX2_chute 8 = .ok (.iconst 1, 1) := by decide +kernel
theorem dX2_chute_9 : decode cX2_chute 9 = .ok (.goto 17, 3) := by decide +kernel
theorem dX2_chute_12 : decode cX2_chute 12 = .ok (.iload_n 2, 1) := by decide +kernel
theorem dX2_chute_13 : decode cX2_chute 13 = .ok (.bipush 7, 2) := by decide +kernel
theorem dX2_chute_15 : decode cX2_chute 15 = .ok (.invokestatic 42, 3) := by decide +kernel
theorem dX2_chute_18 : decode cX2_chute 18 = .ok (.ifCond .ne 7, 3) := by decide +kernel
theorem dX2_chute_21 : decode cX2_chute 21 = .ok (.iconst 2, 1) := by decide +kernel
theorem dX2_chute_22 : decode cX2_chute 22 = .ok (.goto 4, 3) := by decide +kernel
theorem dX2_chute_25 : decode cX2_chute 25 = .ok (.iconst 0, 1) := by decide +kernel
theorem dX2_chute_26 : decode cX2_chute 26 = .ok (.putfield 38, 3) := by decide +kernel
theorem dX2_chute_29 : decode cX2_chute 29 = .ok (.aload_n 0, 1) := by decide +kernel
theorem dX2_chute_30 : decode cX2_chute 30 = .ok (.getfield 38, 3) := by decide +kernel
theorem dX2_chute_33 : decode cX2_chute 33 = .ok (.ifCond .eq 5, 3) := by decide +kernel
theorem dX2_chute_36 : decode cX2_chute 36 = .ok (.iconst 0, 1) := by decide +kernel
theorem dX2_chute_37 : decode cX2_chute 37 = .ok (.ireturn, 1) := by decide +kernel
theorem dX2_chute_38 : decode cX2_chute 38 = .ok (.iload_n 2, 1) := by decide +kernel
theorem dX2_chute_39 : decode cX2_chute 39 = .ok (.tableswitch 86 0 5 #[37, 44, 51, 58, 65, 80], 37) := by decide +kernel
theorem dX2_chute_76 : decode cX2_chute 76 = .ok (.aload_n 0, 1) := by decide +kernel
theorem dX2_chute_77 : decode cX2_chute 77 = .ok (.getfield 22, 3) := by decide +kernel
theorem dX2_chute_80 : decode cX2_chute 80 = .ok (.iload_n 1, 1) := by decide +kernel
theorem dX2_chute_81 : decode cX2_chute 81 = .ok (.iaload, 1) := by decide +kernel
theorem dX2_chute_82 : decode cX2_chute 82 = .ok (.ireturn, 1) := by decide +kernel
theorem dX2_chute_83 : decode cX2_chute 83 = .ok (.aload_n 0, 1) := by decide +kernel
theorem dX2_chute_84 : decode cX2_chute 84 = .ok (.getfield 25, 3) := by decide +kernel
theorem dX2_chute_87 : decode cX2_chute 87 = .ok (.iload_n 1, 1) := by decide +kernel
theorem dX2_chute_88 : decode cX2_chute 88 = .ok (.iaload, 1) := by decide +kernel
theorem dX2_chute_89 : decode cX2_chute 89 = .ok (.ireturn, 1) := by decide +kernel
theorem dX2_chute_90 : decode cX2_chute 90 = .ok (.aload_n 0, 1) := by decide +kernel
theorem dX2_chute_91 : decode cX2_chute 91 = .ok (.getfield 28, 3) := by decide +kernel
theorem dX2_chute_94 : decode cX2_chute 94 = .ok (.iload_n 1, 1) := by decide +kernel
theorem dX2_chute_95 : decode cX2_chute 95 = .ok (.iaload, 1) := by decide +kernel
theorem dX2_chute_96 : decode cX2_chute 96 = .ok (.ireturn, 1) := by decide +kernel
theorem dX2_chute_97 : decode cX2_chute 97 = .ok (.aload_n 0, 1) := by decide +kernel
theorem dX2_chute_98 : decode cX2_chute 98 = .ok (.getfield 31, 3) := by decide +kernel
theorem dX2_chute_101 : decode cX2_chute 101 = .ok (.iload_n 1, 1) := by decide +kernel
theorem dX2_chute_102 : decode cX2_chute 102 = .ok (.iaload, 1) := by decide +kernel
theorem dX2_chute_103 : decode cX2_chute 103 = .ok (.ireturn, 1) := by decide +kernel
theorem dX2_chute_104 : decode cX2_chute 104 = .ok (.aload_n 0, 1) := by decide +kernel
theorem dX2_chute_105 : decode cX2_chute 105 = .ok (.getfield 34, 3) := by decide +kernel
theorem dX2_chute_108 : decode cX2_chute 108 = .ok (.iload_n 1, 1) := by decide +kernel
theorem dX2_chute_109 : decode cX2_chute 109 = .ok (.baload, 1) := by decide +kernel
theorem dX2_chute_110 : decode cX2_chute 110 = .ok (.ifCond .eq 7, 3) := by decide +kernel
theorem dX2_chute_113 : decode cX2_chute 113 = .ok (.iconst 1, 1) := by decide +kernel
theorem dX2_chute_114 : decode cX2_chute 114 = .ok (.goto 4, 3) := by decide +kernel
theorem dX2_chute_117 : decode cX2_chute 117 = .ok (.iconst 0, 1) := by decide +kernel
theorem dX2_chute_118 : decode cX2_chute 118 = .ok (.ireturn, 1) := by decide +kernel
theorem dX2_chute_119 : decode cX2_chute 119 = .ok (.aload_n 0, 1) := by decide +kernel
theorem dX2_chute_120 : decode cX2_chute 120 = .ok (.iload_n 1, 1) := by decide +kernel
theorem dX2_chute_121 : decode cX2_chute 121 = .ok (.invokevirtual 78, 3) := by decide +kernel
theorem dX2_chute_124 : decode cX2_chute 124 = .ok (.ireturn, 1) := by decide +kernel
theorem dX2_chute_125 : decode cX2_chute 125 = .ok (.aload_n 0, 1) := by decide +kernel
theorem dX2_chute_126 : decode cX2_chute 126 = .ok (.iload_n 1, 1) := by decide +kernel
theorem dX2_chute_127 : decode cX2_chute 127 = .ok (.iload_n 2, 1) := by decide +kernel
theorem dX2_chute_128 : decode cX2_chute 128 = .ok (.bipush 7, 2) := by decide +kernel
theorem dX2_chute_130 : decode cX2_chute 130 = .ok (.if_icmp .ne 7, 3) := by decide +kernel
theorem dX2_chute_133 : decode cX2_chute 133 = .ok (.iconst 1, 1) := by decide +kernel
theorem dX2_chute_134 : decode cX2_chute 134 = .ok (.goto 4, 3) := by decide +kernel
theorem dX2_chute_137 : decode cX2_chute 137 = .ok (.iconst 0, 1) := by decide +kernel
theorem dX2_chute_138 : decode cX2_chute 138 = .ok (.invokevirtual 116, 3) := by decide +kernel
theorem dX2_chute_141 : decode cX2_chute 141 = .ok (.ireturn, 1) := by decide +kernel
set_option maxRecDepth 20000 in
theorem ggX2_askedFor_X2_isChute : GoodIn wsX2_askedFor wsX2_isChute := goodIn_r _ [5, 6, 7, 4, 8] (by decide +kernel) (by decide +kernel)
set_option maxRecDepth 20000 in
theorem gX2_askedFor_X2_isChute : GoodIn wsX2_askedFor (va_wsS RX2 74 yX2_isChute wsX2_isChute) := goodIn_app (goodIn_of _ (by decide +kernel)) ggX2_askedFor_X2_isChute
set_option maxRecDepth 20000 in
theorem ggX2_askedFor_X2_parcelAt : GoodIn wsX2_askedFor wsX2_parcelAt := goodIn_r _ [12, 13, 14, 15, 16, 4, 17, 18, 19, 20, 21, 22, 23, 24, 25, 26, 27, 28, 29, 30, 31, 32, 33, 34, 35, 36, 37, 38, 39, 40, 41, 42, 43] (by decide +kernel) (by decide +kernel)
set_option maxRecDepth 20000 in
theorem gX2_askedFor_X2_parcelAt : GoodIn wsX2_askedFor (wsV RX2 120 RX2 yX2_parcelAt wsX2_parcelAt) := goodIn_app (goodIn_of _ (by decide +kernel)) ggX2_askedFor_X2_parcelAt
theorem dX2_askedFor_0 : decode cX2_askedFor 0 = .ok (.iload_n 1, 1) := by decide +kernel
theorem dX2_askedFor_1 : decode cX2_askedFor 1 = .ok (.invokestatic 74, 3) := by decide +kernel
theorem dX2_askedFor_4 : decode cX2_askedFor 4 = .ok (.ifCond .eq 12, 3) := by decide +kernel
theorem dX2_askedFor_7 : decode cX2_askedFor 7 = .ok (.aload_n 0, 1) := by decide +kernel
theorem dX2_askedFor_8 : decode cX2_askedFor 8 = .ok (.iload_n 1, 1) := by decide +kernel
theorem dX2_askedFor_9 : decode cX2_askedFor 9 = .ok (.iload_n 2, 1) := by decide +kernel
theorem dX2_askedFor_10 : decode cX2_askedFor 10 = .ok (.invokevirtual 120, 3) := by decide +kernel
theorem dX2_askedFor_13 : decode cX2_askedFor 13 = .ok (.goto 4, 3) := by decide +kernel
theorem dX2_askedFor_16 : decode cX2_askedFor 16 = .ok (.iconst (-1), 1) := by decide +kernel
theorem dX2_askedFor_17 : decode cX2_askedFor 17 = .ok (.istore_n 3, 1) := by decide +kernel
theorem dX2_askedFor_18 : decode cX2_askedFor 18 = .ok (.aload_n 0, 1) := by decide +kernel
theorem dX2_askedFor_19 : decode cX2_askedFor 19 = .ok (.iload_n 1, 1) := by decide +kernel
theorem dX2_askedFor_20 : decode cX2_askedFor 20 = .ok (.invokestatic 74, 3) := by decide +kernel
theorem dX2_askedFor_23 : decode cX2_askedFor 23 = .ok (.ifCond .ne 7, 3) := by decide +kernel
theorem dX2_askedFor_26 : decode cX2_askedFor 26 = .ok (.iconst 1, 1) := by decide +kernel
theorem dX2_askedFor_27 : decode cX2_askedFor 27 = .ok (.goto 13, 3) := by decide +kernel
theorem dX2_askedFor_30 : decode cX2_askedFor 30 = .ok (.iload_n 3, 1) := by decide +kernel
theorem dX2_askedFor_31 : decode cX2_askedFor 31 = .ok (.iconst (-1), 1) := by decide +kernel
theorem dX2_askedFor_32 : decode cX2_askedFor 32 = .ok (.if_icmp .ne 7, 3) := by decide +kernel
theorem dX2_askedFor_35 : decode cX2_askedFor 35 = .ok (.iconst 2, 1) := by decide +kernel
theorem dX2_askedFor_36 : decode cX2_askedFor 36 = .ok (.goto 4, 3) := by decide +kernel
theorem dX2_askedFor_39 : decode cX2_askedFor 39 = .ok (.iconst 0, 1) := by decide +kernel
theorem dX2_askedFor_40 : decode cX2_askedFor 40 = .ok (.putfield 38, 3) := by decide +kernel
theorem dX2_askedFor_43 : decode cX2_askedFor 43 = .ok (.iload_n 3, 1) := by decide +kernel
theorem dX2_askedFor_44 : decode cX2_askedFor 44 = .ok (.ireturn, 1) := by decide +kernel
set_option maxRecDepth 20000 in
theorem ggX2_weight_X2_askedFor : GoodIn wsX2_weight wsX2_askedFor := goodIn_r _ [7, 1, 8, 9, 6, 10, 11, 12, 13, 14, 15, 16, 17, 18, 19, 20, 21, 22, 23, 24, 25, 26, 2, 27, 28, 29, 30, 31, 32, 33, 34, 35, 36, 37, 38, 39, 40, 41, 42, 43, 44, 45, 46, 47] (by decide +kernel) (by decide +kernel)
set_option maxRecDepth 20000 in
theorem gX2_weight_X2_askedFor : GoodIn wsX2_weight (wsV RX2 123 RX2 yX2_askedFor wsX2_askedFor) := goodIn_app (goodIn_of _ (by decide +kernel)) ggX2_weight_X2_askedFor
theorem dX2_weight_0 : decode cX2_weight 0 = .ok (.aload_n 0, 1) := by decide +kernel
theorem dX2_weight_1 : decode cX2_weight 1 = .ok (.iload_n 1, 1) := by decide +kernel
theorem dX2_weight_2 : decode cX2_weight 2 = .ok (.iload_n 2, 1) := by decide +kernel
theorem dX2_weight_3 : decode cX2_weight 3 = .ok (.invokevirtual 123, 3) := by decide +kernel
theorem dX2_weight_6 : decode cX2_weight 6 = .ok (.istore_n 3, 1) := by decide +kernel
theorem dX2_weight_7 : decode cX2_weight 7 = .ok (.aload_n 0, 1) := by decide +kernel
theorem dX2_weight_8 : decode cX2_weight 8 = .ok (.getfield 38, 3) := by decide +kernel
theorem dX2_weight_11 : decode cX2_weight 11 = .ok (.ifCond .ne 12, 3) := by decide +kernel
theorem dX2_weight_14 : decode cX2_weight 14 = .ok (.aload_n 0, 1) := by decide +kernel
theorem dX2_weight_15 : decode cX2_weight 15 = .ok (.getfield 13, 3) := by decide +kernel
theorem dX2_weight_18 : decode cX2_weight 18 = .ok (.iload_n 3, 1) := by decide +kernel
theorem dX2_weight_19 : decode cX2_weight 19 = .ok (.iaload, 1) := by decide +kernel
theorem dX2_weight_20 : decode cX2_weight 20 = .ok (.goto 4, 3) := by decide +kernel
theorem dX2_weight_23 : decode cX2_weight 23 = .ok (.iconst 0, 1) := by decide +kernel
theorem dX2_weight_24 : decode cX2_weight 24 = .ok (.ireturn, 1) := by decide +kernel
set_option maxRecDepth 20000 in
theorem ggX2_girth_X2_askedFor : GoodIn wsX2_girth wsX2_askedFor := goodIn_r _ [7, 1, 8, 9, 6, 10, 11, 12, 13, 14, 15, 16, 17, 18, 19, 20, 21, 22, 23, 24, 25, 26, 27, 28, 29, 30, 31, 32, 33, 34, 35, 36, 37, 38, 39, 40, 41, 42, 43, 44, 45, 46, 47, 48] (by decide +kernel) (by decide +kernel)
set_option maxRecDepth 20000 in
theorem gX2_girth_X2_askedFor : GoodIn wsX2_girth (wsV RX2 123 RX2 yX2_askedFor wsX2_askedFor) := goodIn_app (goodIn_of _ (by decide +kernel)) ggX2_girth_X2_askedFor
theorem dX2_girth_0 : decode cX2_girth 0 = .ok (.aload_n 0, 1) := by decide +kernel
theorem dX2_girth_1 : decode cX2_girth 1 = .ok (.iload_n 1, 1) := by decide +kernel
theorem dX2_girth_2 : decode cX2_girth 2 = .ok (.iload_n 2, 1) := by decide +kernel
theorem dX2_girth_3 : decode cX2_girth 3 = .ok (.invokevirtual 123, 3) := by decide +kernel
theorem dX2_girth_6 : decode cX2_girth 6 = .ok (.istore_n 3, 1) := by decide +kernel
theorem dX2_girth_7 : decode cX2_girth 7 = .ok (.aload_n 0, 1) := by decide +kernel
theorem dX2_girth_8 : decode cX2_girth 8 = .ok (.getfield 38, 3) := by decide +kernel
theorem dX2_girth_11 : decode cX2_girth 11 = .ok (.ifCond .ne 12, 3) := by decide +kernel
theorem dX2_girth_14 : decode cX2_girth 14 = .ok (.aload_n 0, 1) := by decide +kernel
theorem dX2_girth_15 : decode cX2_girth 15 = .ok (.getfield 16, 3) := by decide +kernel
theorem dX2_girth_18 : decode cX2_girth 18 = .ok (.iload_n 3, 1) := by decide +kernel
theorem dX2_girth_19 : decode cX2_girth 19 = .ok (.iaload, 1) := by decide +kernel
theorem dX2_girth_20 : decode cX2_girth 20 = .ok (.goto 4, 3) := by decide +kernel
theorem dX2_girth_23 : decode cX2_girth 23 = .ok (.iconst 0, 1) := by decide +kernel
theorem dX2_girth_24 : decode cX2_girth 24 = .ok (.ireturn, 1) := by decide +kernel
set_option maxRecDepth 20000 in
theorem ggX2_below_X2_isChute : GoodIn wsX2_below wsX2_isChute := goodIn_r _ [8, 9, 10, 7, 11] (by decide +kernel) (by decide +kernel)
set_option maxRecDepth 20000 in
theorem gX2_below_X2_isChute : GoodIn wsX2_below (va_wsS RX2 74 yX2_isChute wsX2_isChute) := goodIn_app (goodIn_of _ (by decide +kernel)) ggX2_below_X2_isChute
set_option maxRecDepth 20000 in
theorem ggX2_below_X2_isWithin : GoodIn wsX2_below wsX2_isWithin := goodIn_r _ [11] (by decide +kernel) (by decide +kernel)
set_option maxRecDepth 20000 in
theorem gX2_below_X2_isWithin : GoodIn wsX2_below (va_wsS RX2 42 yX2_isWithin wsX2_isWithin) := goodIn_app (goodIn_of _ (by decide +kernel)) ggX2_below_X2_isWithin
set_option maxRecDepth 20000 in
theorem ggX2_below_X2_holds : GoodIn wsX2_below wsX2_holds := goodIn_r _ [14, 15, 16, 7, 17] (by decide +kernel) (by decide +kernel)
set_option maxRecDepth 20000 in
theorem gX2_below_X2_holds : GoodIn wsX2_below (va_wsS RX2 51 yX2_holds wsX2_holds) := goodIn_app (goodIn_of _ (by decide +kernel)) ggX2_below_X2_holds
theorem dX2_below_0 : decode cX2_below 0 = .ok (.aload_n 0, 1) := by decide +kernel
theorem dX2_below_1 : decode cX2_below 1 = .ok (.iload_n 1, 1) := by decide +kernel
theorem dX2_below_2 : decode cX2_below 2 = .ok (.invokestatic 74, 3) := by decide +kernel
theorem dX2_below_5 : decode cX2_below 5 = .ok (.ifCond .ne 7, 3) := by decide +kernel
theorem dX2_below_8 : decode cX2_below 8 = .ok (.iconst 1, 1) := by decide +kernel
theorem dX2_below_9 : decode cX2_below 9 = .ok (.goto 17, 3) := by decide +kernel
theorem dX2_below_12 : decode cX2_below 12 = .ok (.iload_n 2, 1) := by decide +kernel
theorem dX2_below_13 : decode cX2_below 13 = .ok (.ldc 46, 2) := by decide +kernel
theorem dX2_below_15 : decode cX2_below 15 = .ok (.invokestatic 42, 3) := by decide +kernel
theorem dX2_below_18 : decode cX2_below 18 = .ok (.ifCond .ne 7, 3) := by decide +kernel
theorem dX2_below_21 : decode cX2_below 21 = .ok (.iconst 2, 1) := by decide +kernel
theorem dX2_below_22 : decode cX2_below 22 = .ok (.goto 4, 3) := by decide +kernel
theorem dX2_below_25 : decode cX2_below 25 = .ok (.iconst 0, 1) := by decide +kernel
theorem dX2_below_26 : decode cX2_below 26 = .ok (.putfield 38, 3) := by decide +kernel
theorem dX2_below_29 : decode cX2_below 29 = .ok (.iconst 0, 1) := by decide +kernel
theorem dX2_below_30 : decode cX2_below 30 = .ok (.istore_n 3, 1) := by decide +kernel
theorem dX2_below_31 : decode cX2_below 31 = .ok (.iconst 0, 1) := by decide +kernel
theorem dX2_below_32 : decode cX2_below 32 = .ok (.istore 4, 2) := by decide +kernel
theorem dX2_below_34 : decode cX2_below 34 = .ok (.iload 4, 2) := by decide +kernel
theorem dX2_below_36 : decode cX2_below 36 = .ok (.bipush 96, 2) := by decide +kernel
theorem dX2_below_38 : decode cX2_below 38 = .ok (.if_icmp .ge 50, 3) := by decide +kernel
theorem dX2_below_41 : decode cX2_below 41 = .ok (.aload_n 0, 1) := by decide +kernel
theorem dX2_below_42 : decode cX2_below 42 = .ok (.getfield 38, 3) := by decide +kernel
theorem dX2_below_45 : decode cX2_below 45 = .ok (.ifCond .ne 43, 3) := by decide +kernel
theorem dX2_below_48 : decode cX2_below 48 = .ok (.iload_n 3, 1) := by decide +kernel
theorem dX2_below_49 : decode cX2_below 49 = .ok (.aload_n 0, 1) := by decide +kernel
theorem dX2_below_50 : decode cX2_below 50 = .ok (.getfield 7, 3) := by decide +kernel
theorem dX2_below_53 : decode cX2_below 53 = .ok (.iload 4, 2) := by decide +kernel
theorem dX2_below_55 : decode cX2_below 55 = .ok (.iaload, 1) := by decide +kernel
theorem dX2_below_56 : decode cX2_below 56 = .ok (.iload_n 1, 1) := by decide +kernel
theorem dX2_below_57 : decode cX2_below 57 = .ok (.if_icmp .ne 22, 3) := by decide +kernel
theorem dX2_below_60 : decode cX2_below 60 = .ok (.aload_n 0, 1) := by decide +kernel
theorem dX2_below_61 : decode cX2_below 61 = .ok (.getfield 13, 3) := by decide +kernel
theorem dX2_below_64 : decode cX2_below 64 = .ok (.iload 4, 2) := by decide +kernel
theorem dX2_below_66 : decode cX2_below 66 = .ok (.iaload, 1) := by decide +kernel
theorem dX2_below_67 : decode cX2_below 67 = .ok (.iload_n 2, 1) := by decide +kernel
theorem dX2_below_68 : decode cX2_below 68 = .ok (.iconst 1, 1) := by decide +kernel
theorem dX2_below_69 : decode cX2_below 69 = .ok (.invokestatic 51, 3) := by decide +kernel
theorem dX2_below_72 : decode cX2_below 72 = .ok (.ifCond .eq 7, 3) := by decide +kernel
theorem dX2_below_75 : decode cX2_below 75 = .ok (.iconst 1, 1) := by decide +kernel
theorem dX2_below_76 : decode cX2_below 76 = .ok (.goto 4, 3) := by decide +kernel
theorem dX2_below_79 : decode cX2_below 79 = .ok (.iconst 0, 1) := by decide +kernel
theorem dX2_below_80 : decode cX2_below 80 = .ok (.iadd, 1) := by decide +kernel
theorem dX2_below_81 : decode cX2_below 81 = .ok (.istore_n 3, 1) := by decide +kernel
theorem dX2_below_82 : decode cX2_below 82 = .ok (.iinc 4 1, 3) := by decide +kernel
theorem dX2_below_85 : decode cX2_below 85 = .ok (.goto (-51), 3) := by decide +kernel
theorem dX2_below_88 : decode cX2_below 88 = .ok (.iload_n 3, 1) := by decide +kernel
theorem dX2_below_89 : decode cX2_below 89 = .ok (.ireturn, 1) := by decide +kernel
set_option maxRecDepth 20000 in
theorem ggX2_take_X2_isChute : GoodIn wsX2_take wsX2_isChute := goodIn_r _ [10, 11, 12, 9, 13] (by decide +kernel) (by decide +kernel)
set_option maxRecDepth 20000 in
theorem gX2_take_X2_isChute : GoodIn wsX2_take (va_wsS RX2 74 yX2_isChute wsX2_isChute) := goodIn_app (goodIn_of _ (by decide +kernel)) ggX2_take_X2_isChute
set_option maxRecDepth 20000 in
theorem ggX2_take_X2_isWithin : GoodIn wsX2_take wsX2_isWithin := goodIn_r _ [13] (by decide +kernel) (by decide +kernel)
set_option maxRecDepth 20000 in
theorem gX2_take_X2_isWithin : GoodIn wsX2_take (va_wsS RX2 42 yX2_isWithin wsX2_isWithin) := goodIn_app (goodIn_of _ (by decide +kernel)) ggX2_take_X2_isWithin
theorem dX2_take_0 : decode cX2_take 0 = .ok (.aload_n 0, 1) := by decide +kernel
theorem dX2_take_1 : decode cX2_take 1 = .ok (.iload_n 1, 1) := by decide +kernel
theorem dX2_take_2 : decode cX2_take 2 = .ok (.invokestatic 74, 3) := by decide +kernel
theorem dX2_take_5 : decode cX2_take 5 = .ok (.ifCond .ne 7, 3) := by decide +kernel
theorem dX2_take_8 : decode cX2_take 8 = .ok (.iconst 1, 1) := by decide +kernel
theorem dX2_take_9 : decode cX2_take 9 = .ok (.goto 17, 3) := by decide +kernel
theorem dX2_take_12 : decode cX2_take 12 = .ok (.iload_n 2, 1) := by decide +kernel
theorem dX2_take_13 : decode cX2_take 13 = .ok (.ldc 46, 2) := by decide +kernel
theorem dX2_take_15 : decode cX2_take 15 = .ok (.invokestatic 42, 3) := by decide +kernel
theorem dX2_take_18 : decode cX2_take 18 = .ok (.ifCond .ne 7, 3) := by decide +kernel
theorem dX2_take_21 : decode cX2_take 21 = .ok (.iconst 2, 1) := by decide +kernel
theorem dX2_take_22 : decode cX2_take 22 = .ok (.goto 4, 3) := by decide +kernel
theorem dX2_take_25 : decode cX2_take 25 = .ok (.iconst 0, 1) := by decide +kernel
theorem dX2_take_26 : decode cX2_take 26 = .ok (.putfield 38, 3) := by decide +kernel
theorem dX2_take_29 : decode cX2_take 29 = .ok (.aload_n 0, 1) := by decide +kernel
theorem dX2_take_30 : decode cX2_take 30 = .ok (.getfield 38, 3) := by decide +kernel
theorem dX2_take_33 : decode cX2_take 33 = .ok (.ifCond .eq 5, 3) := by decide +kernel
theorem dX2_take_36 : decode cX2_take 36 = .ok (.iconst 0, 1) := by decide +kernel
theorem dX2_take_37 : decode cX2_take 37 = .ok (.ireturn, 1) := by decide +kernel
theorem dX2_take_38 : decode cX2_take 38 = .ok (.iconst (-1), 1) := by decide +kernel
theorem dX2_take_39 : decode cX2_take 39 = .ok (.istore_n 3, 1) := by decide +kernel
theorem dX2_take_40 : decode cX2_take 40 = .ok (.iconst 0, 1) := by decide +kernel
theorem dX2_take_41 : decode cX2_take 41 = .ok (.istore 4, 2) := by decide +kernel
theorem dX2_take_43 : decode cX2_take 43 = .ok (.iload 4, 2) := by decide +kernel
theorem dX2_take_45 : decode cX2_take 45 = .ok (.bipush 96, 2) := by decide +kernel
theorem dX2_take_47 : decode cX2_take 47 = .ok (.if_icmp .ge 55, 3) := by decide +kernel
theorem dX2_take_50 : decode cX2_take 50 = .ok (.aload_n 0, 1) := by decide +kernel
theorem dX2_take_51 : decode cX2_take 51 = .ok (.getfield 7, 3) := by decide +kernel
theorem dX2_take_54 : decode cX2_take 54 = .ok (.iload 4, 2) := by decide +kernel
theorem dX2_take_56 : decode cX2_take 56 = .ok (.iaload, 1) := by decide +kernel
theorem dX2_take_57 : decode cX2_take 57 = .ok (.iload_n 1, 1) := by decide +kernel
theorem dX2_take_58 : decode cX2_take 58 = .ok (.if_icmp .ne 38, 3) := by decide +kernel
theorem dX2_take_61 : decode cX2_take 61 = .ok (.aload_n 0, 1) := by decide +kernel
theorem dX2_take_62 : decode cX2_take 62 = .ok (.getfield 13, 3) := by decide +kernel
theorem dX2_take_65 : decode cX2_take 65 = .ok (.iload 4, 2) := by decide +kernel
theorem dX2_take_67 : decode cX2_take 67 = .ok (.iaload, 1) := by decide +kernel
theorem dX2_take_68 : decode cX2_take 68 = .ok (.iload_n 2, 1) := by decide +kernel
theorem dX2_take_69 : decode cX2_take 69 = .ok (.if_icmp .ne 27, 3) := by decide +kernel
theorem dX2_take_72 : decode cX2_take 72 = .ok (.iload_n 3, 1) := by decide +kernel
theorem dX2_take_73 : decode cX2_take 73 = .ok (.iconst (-1), 1) := by decide +kernel
theorem dX2_take_74 : decode cX2_take 74 = .ok (.if_icmp .eq 19, 3) := by decide +kernel
theorem dX2_take_77 : decode cX2_take 77 = .ok (.aload_n 0, 1) := by decide +kernel
theorem dX2_take_78 : decode cX2_take 78 = .ok (.getfield 19, 3) := by decide +kernel
theorem dX2_take_81 : decode cX2_take 81 = .ok (.iload 4, 2) := by decide +kernel
theorem dX2_take_83 : decode cX2_take 83 = .ok (.iaload, 1) := by decide +kernel
theorem dX2_take_84 : decode cX2_take 84 = .ok (.aload_n 0, 1) := by decide +kernel
theorem dX2_take_85 : decode cX2_take 85 = .ok (.getfield 19, 3) := by decide +kernel
theorem dX2_take_88 : decode cX2_take 88 = .ok (.iload_n 3, 1) := by decide +kernel
theorem dX2_take_89 : decode cX2_take 89 = .ok (.iaload, 1) := by decide +kernel
theorem dX2_take_90 : decode cX2_take 90 = .ok (.if_icmp .ge 6, 3) := by decide +kernel
theorem dX2_take_93 : decode cX2_take 93 = .ok (.iload 4, 2) := by decide +kernel
theorem dX2_take_95 : decode cX2_take 95 = .ok (.istore_n 3, 1) := by decide +kernel
theorem dX2_take_96 : decode cX2_take 96 = .ok (.iinc 4 1, 3) := by decide +kernel
theorem dX2_take_99 : decode cX2_take 99 = .ok (.goto (-56), 3) := by decide +kernel
theorem dX2_take_102 : decode cX2_take 102 = .ok (.aload_n 0, 1) := by decide +kernel
theorem dX2_take_103 : decode cX2_take 103 = .ok (.iload_n 3, 1) := by decide +kernel
theorem dX2_take_104 : decode cX2_take 104 = .ok (.iconst (-1), 1) := by decide +kernel
theorem dX2_take_105 : decode cX2_take 105 = .ok (.if_icmp .ne 7, 3) := by decide +kernel
theorem dX2_take_108 : decode cX2_take 108 = .ok (.iconst 3, 1) := by decide +kernel
theorem dX2_take_109 : decode cX2_take 109 = .ok (.goto 4, 3) := by decide +kernel
theorem dX2_take_112 : decode cX2_take 112 = .ok (.iconst 0, 1) := by decide +kernel
theorem dX2_take_113 : decode cX2_take 113 = .ok (.putfield 38, 3) := by decide +kernel
theorem dX2_take_116 : decode cX2_take 116 = .ok (.aload_n 0, 1) := by decide +kernel
theorem dX2_take_117 : decode cX2_take 117 = .ok (.getfield 38, 3) := by decide +kernel
theorem dX2_take_120 : decode cX2_take 120 = .ok (.ifCond .eq 5, 3) := by decide +kernel
theorem dX2_take_123 : decode cX2_take 123 = .ok (.iconst 0, 1) := by decide +kernel
theorem dX2_take_124 : decode cX2_take 124 = .ok (.ireturn, 1) := by decide +kernel
theorem dX2_take_125 : decode cX2_take 125 = .ok (.aload_n 0, 1) := by decide +kernel
theorem dX2_take_126 : decode cX2_take 126 = .ok (.getfield 7, 3) := by decide +kernel
theorem dX2_take_129 : decode cX2_take 129 = .ok (.iload_n 3, 1) := by decide +kernel
theorem dX2_take_130 : decode cX2_take 130 = .ok (.iconst (-1), 1) := by decide +kernel
theorem dX2_take_131 : decode cX2_take 131 = .ok (.iastore, 1) := by decide +kernel
theorem dX2_take_132 : decode cX2_take 132 = .ok (.aload_n 0, 1) := by decide +kernel
theorem dX2_take_133 : decode cX2_take 133 = .ok (.getfield 16, 3) := by decide +kernel
theorem dX2_take_136 : decode cX2_take 136 = .ok (.iload_n 3, 1) := by decide +kernel
theorem dX2_take_137 : decode cX2_take 137 = .ok (.iaload, 1) := by decide +kernel
theorem dX2_take_138 : decode cX2_take 138 = .ok (.ireturn, 1) := by decide +kernel
set_option maxRecDepth 20000 in
theorem ggX2_pour_X2_isChute : GoodIn wsX2_pour wsX2_isChute := goodIn_r _ [10, 11, 12, 9, 13] (by decide +kernel) (by decide +kernel)
set_option maxRecDepth 20000 in
theorem gX2_pour_X2_isChute : GoodIn wsX2_pour (va_wsS RX2 74 yX2_isChute wsX2_isChute) := goodIn_app (goodIn_of _ (by decide +kernel)) ggX2_pour_X2_isChute
set_option maxRecDepth 20000 in
theorem ggX2_pour_X2_many : GoodIn wsX2_pour wsX2_many := goodIn_r _ [17, 4, 44, 45, 46, 47, 48, 49, 50, 51, 52, 53, 54, 55, 56, 57, 58, 59, 60, 61, 62, 63] (by decide +kernel) (by decide +kernel)
set_option maxRecDepth 20000 in
theorem gX2_pour_X2_many : GoodIn wsX2_pour (wsV RX2 78 RX2 yX2_many wsX2_many) := goodIn_app (goodIn_of _ (by decide +kernel)) ggX2_pour_X2_many
set_option maxRecDepth 20000 in
theorem ggX2_pour_X2_parcelAt : GoodIn wsX2_pour wsX2_parcelAt := goodIn_r _ [21, 4, 22, 23, 24, 9, 25, 26, 27, 28, 29, 2, 5, 44, 45, 46, 47, 48, 49, 50, 51, 52, 53, 54, 55, 56, 57, 58, 59, 60, 61, 62, 63] (by decide +kernel) (by decide +kernel)
set_option maxRecDepth 20000 in
theorem gX2_pour_X2_parcelAt : GoodIn wsX2_pour (wsV RX2 120 RX2 yX2_parcelAt wsX2_parcelAt) := goodIn_app (goodIn_of _ (by decide +kernel)) ggX2_pour_X2_parcelAt
set_option maxRecDepth 20000 in
theorem ggX2_pour_X2_fitsChute : GoodIn wsX2_pour wsX2_fitsChute := goodIn_r _ [33, 34, 35, 36, 37, 38, 39, 9, 40, 41, 42, 43, 44, 45, 46, 47, 48, 49, 50, 51, 52, 53, 54, 55, 56, 57, 58, 59, 60, 61, 62, 63] (by decide +kernel) (by decide +kernel)
set_option maxRecDepth 20000 in
theorem gX2_pour_X2_fitsChute : GoodIn wsX2_pour (wsV RX2 106 RX2 yX2_fitsChute wsX2_fitsChute) := goodIn_app (goodIn_of _ (by decide +kernel)) ggX2_pour_X2_fitsChute
theorem dX2_pour_0 : decode cX2_pour 0 = .ok (.aload_n 0, 1) := by decide +kernel
theorem dX2_pour_1 : decode cX2_pour 1 = .ok (.iload_n 1, 1) := by decide +kernel
theorem dX2_pour_2 : decode cX2_pour 2 = .ok (.invokestatic 74, 3) := by decide +kernel
theorem dX2_pour_5 : decode cX2_pour 5 = .ok (.ifCond .eq 10, 3) := by decide +kernel
theorem dX2_pour_8 : decode cX2_pour 8 = .ok (.iload_n 2, 1) := by decide +kernel
theorem dX2_pour_9 : decode cX2_pour 9 = .ok (.invokestatic 74, 3) := by decide +kernel
theorem dX2_pour_12 : decode cX2_pour 12 = .ok (.ifCond .ne 7, 3) := by decide +kernel
theorem dX2_pour_15 : decode cX2_pour 15 = .ok (.iconst 1, 1) := by decide +kernel
theorem dX2_pour_16 : decode cX2_pour 16 = .ok (.goto 13, 3) := by decide +kernel
theorem dX2_pour_19 : decode cX2_pour 19 = .ok (.iload_n 1, 1) := by decide +kernel
theorem dX2_pour_20 : decode cX2_pour 20 = .ok (.iload_n 2, 1) := by decide +kernel
theorem dX2_pour_21 : decode cX2_pour 21 = .ok (.if_icmp .ne 7, 3) := by decide +kernel
theorem dX2_pour_24 : decode cX2_pour 24 = .ok (.iconst 2, 1) := by decide +kernel
theorem dX2_pour_25 : decode cX2_pour 25 = .ok (.goto 4, 3) := by decide +kernel
theorem dX2_pour_28 : decode cX2_pour 28 = .ok (.iconst 0, 1) := by decide +kernel
theorem dX2_pour_29 : decode cX2_pour 29 = .ok (.putfield 38, 3) := by decide +kernel
theorem dX2_pour_32 : decode cX2_pour 32 = .ok (.aload_n 0, 1) := by decide +kernel
theorem dX2_pour_33 : decode cX2_pour 33 = .ok (.getfield 38, 3) := by decide +kernel
theorem dX2_pour_36 : decode cX2_pour 36 = .ok (.ifCond .eq 5, 3) := by decide +kernel
theorem dX2_pour_39 : decode cX2_pour 39 = .ok (.iconst 0, 1) := by decide +kernel
theorem dX2_pour_40 : decode cX2_pour 40 = .ok (.ireturn, 1) := by decide +kernel
theorem dX2_pour_41 : decode cX2_pour 41 = .ok (.iconst 0, 1) := by decide +kernel
theorem dX2_pour_42 : decode cX2_pour 42 = .ok (.istore_n 3, 1) := by decide +kernel
theorem dX2_pour_43 : decode cX2_pour 43 = .ok (.iconst 0, 1) := by decide +kernel
theorem dX2_pour_44 : decode cX2_pour 44 = .ok (.istore 4, 2) := by decide +kernel
theorem dX2_pour_46 : decode cX2_pour 46 = .ok (.aload_n 0, 1) := by decide +kernel
theorem dX2_pour_47 : decode cX2_pour 47 = .ok (.iload_n 1, 1) := by decide +kernel
theorem dX2_pour_48 : decode cX2_pour 48 = .ok (.invokevirtual 78, 3) := by decide +kernel
theorem dX2_pour_51 : decode cX2_pour 51 = .ok (.istore 5, 2) := by decide +kernel
theorem dX2_pour_53 : decode cX2_pour 53 = .ok (.iconst 0, 1) := by decide +kernel
theorem dX2_pour_54 : decode cX2_pour 54 = .ok (.istore 6, 2) := by decide +kernel
theorem dX2_pour_56 : decode cX2_pour 56 = .ok (.iload 6, 2) := by decide +kernel
theorem dX2_pour_58 : decode cX2_pour 58 = .ok (.iload 5, 2) := by decide +kernel
theorem dX2_pour_60 : decode cX2_pour 60 = .ok (.if_icmp .ge 88, 3) := by decide +kernel
theorem dX2_pour_63 : decode cX2_pour 63 = .ok (.aload_n 0, 1) := by decide +kernel
theorem dX2_pour_64 : decode cX2_pour 64 = .ok (.iload_n 1, 1) := by decide +kernel
theorem dX2_pour_65 : decode cX2_pour 65 = .ok (.iload 4, 2) := by decide +kernel
theorem dX2_pour_67 : decode cX2_pour 67 = .ok (.invokevirtual 120, 3) := by decide +kernel
theorem dX2_pour_70 : decode cX2_pour 70 = .ok (.istore 7, 2) := by decide +kernel
theorem dX2_pour_72 : decode cX2_pour 72 = .ok (.aload_n 0, 1) := by decide +kernel
theorem dX2_pour_73 : decode cX2_pour 73 = .ok (.iload_n 2, 1) := by decide +kernel
theorem dX2_pour_74 : decode cX2_pour 74 = .ok (.invokevirtual 78, 3) := by decide +kernel
theorem dX2_pour_77 : decode cX2_pour 77 = .ok (.bipush 12, 2) := by decide +kernel
theorem dX2_pour_79 : decode cX2_pour 79 = .ok (.if_icmp .ge 60, 3) := by decide +kernel
theorem dX2_pour_82 : decode cX2_pour 82 = .ok (.aload_n 0, 1) := by decide +kernel
theorem dX2_pour_83 : decode cX2_pour 83 = .ok (.aload_n 0, 1) := by decide +kernel
theorem dX2_pour_84 : decode cX2_pour 84 = .ok (.getfield 13, 3) := by decide +kernel
theorem dX2_pour_87 : decode cX2_pour 87 = .ok (.iload 7, 2) := by decide +kernel
theorem dX2_pour_89 : decode cX2_pour 89 = .ok (.iaload, 1) := by decide +kernel
theorem dX2_pour_90 : decode cX2_pour 90 = .ok (.aload_n 0, 1) := by decide +kernel
theorem dX2_pour_91 : decode cX2_pour 91 = .ok (.getfield 16, 3) := by decide +kernel
theorem dX2_pour_94 : decode cX2_pour 94 = .ok (.iload 7, 2) := by decide +kernel
theorem dX2_pour_96 : decode cX2_pour 96 = .ok (.iaload, 1) := by decide +kernel
theorem dX2_pour_97 : decode cX2_pour 97 = .ok (.iload_n 2, 1) := by decide +kernel
theorem dX2_pour_98 : decode cX2_pour 98 = .ok (.invokevirtual 106, 3) := by decide +kernel
theorem dX2_pour_101 : decode cX2_pour 101 = .ok (.ifCond .eq 38, 3) := by decide +kernel
theorem dX2_pour_104 : decode cX2_pour 104 = .ok (.aload_n 0, 1) := by decide +kernel
theorem dX2_pour_105 : decode cX2_pour 105 = .ok (.getfield 7, 3) := by decide +kernel
theorem dX2_pour_108 : decode cX2_pour 108 = .ok (.iload 7, 2) := by decide +kernel
theorem dX2_pour_110 : decode cX2_pour 110 = .ok (.iload_n 2, 1) := by decide +kernel
theorem dX2_pour_111 : decode cX2_pour 111 = .ok (.iastore, 1) := by decide +kernel
theorem dX2_pour_112 : decode cX2_pour 112 = .ok (.aload_n 0, 1) := by decide +kernel
theorem dX2_pour_113 : decode cX2_pour 113 = .ok (.getfield 19, 3) := by decide +kernel
theorem dX2_pour_116 : decode cX2_pour 116 = .ok (.iload 7, 2) := by decide +kernel
theorem dX2_pour_118 : decode cX2_pour 118 = .ok (.aload_n 0, 1) := by decide +kernel
theorem dX2_pour_119 : decode cX2_pour 119 = .ok (.getfield 62, 3) := by decide +kernel
theorem dX2_pour_122 : decode cX2_pour 122 = .ok (.iastore, 1) := by decide +kernel
theorem dX2_pour_123 : decode cX2_pour 123 = .ok (.aload_n 0, 1) := by decide +kernel
theorem dX2_pour_124 : decode cX2_pour 124 = .ok (.dup, 1) := by decide +kernel
theorem dX2_pour_125 : decode cX2_pour 125 = .ok (.getfield 62, 3) := by decide +kernel
theorem dX2_pour_128 : decode cX2_pour 128 = .ok (.iconst 1, 1) := by decide +kernel
theorem dX2_pour_129 : decode cX2_pour 129 = .ok (.iadd, 1) := by decide +kernel
theorem dX2_pour_130 : decode cX2_pour 130 = .ok (.putfield 62, 3) := by decide +kernel
theorem dX2_pour_133 : decode cX2_pour 133 = .ok (.iinc 3 1, 3) := by decide +kernel
theorem dX2_pour_136 : decode cX2_pour 136 = .ok (.goto 6, 3) := by decide +kernel
theorem dX2_pour_139 : decode cX2_pour 139 = .ok (.iinc 4 1, 3) := by decide +kernel
theorem dX2_pour_142 : decode cX2_pour 142 = .ok (.iinc 6 1, 3) := by decide +kernel
theorem dX2_pour_145 : decode cX2_pour 145 = .ok (.goto (-89), 3) := by decide +kernel
theorem dX2_pour_148 : decode cX2_pour 148 = .ok (.iload_n 3, 1) := by decide +kernel
theorem dX2_pour_149 : decode cX2_pour 149 = .ok (.ireturn, 1) := by decide +kernel
set_option maxRecDepth 20000 in
theorem ggX2_sweep_X2_isChute : GoodIn wsX2_sweep wsX2_isChute := goodIn_r _ [8, 9, 10, 7, 11] (by decide +kernel) (by decide +kernel)
set_option maxRecDepth 20000 in
theorem gX2_sweep_X2_isChute : GoodIn wsX2_sweep (va_wsS RX2 74 yX2_isChute wsX2_isChute) := goodIn_app (goodIn_of _ (by decide +kernel)) ggX2_sweep_X2_isChute
set_option maxRecDepth 20000 in
theorem ggX2_sweep_X2_many : GoodIn wsX2_sweep wsX2_many := goodIn_r _ [15, 4, 50, 51, 52, 53, 54, 55, 56, 57, 58, 59, 60, 61, 62, 63, 64, 65, 66, 67, 68, 69] (by decide +kernel) (by decide +kernel)
set_option maxRecDepth 20000 in
theorem gX2_sweep_X2_many : GoodIn wsX2_sweep (wsV RX2 78 RX2 yX2_many wsX2_many) := goodIn_app (goodIn_of _ (by decide +kernel)) ggX2_sweep_X2_many
set_option maxRecDepth 20000 in
theorem ggX2_sweep_X2_parcelAt : GoodIn wsX2_sweep wsX2_parcelAt := goodIn_r _ [19, 4, 20, 21, 22, 7, 23, 24, 25, 26, 27, 2, 28, 50, 51, 52, 53, 54, 55, 56, 57, 58, 59, 60, 61, 62, 63, 64, 65, 66, 67, 68, 69] (by decide +kernel) (by decide +kernel)
set_option maxRecDepth 20000 in
theorem gX2_sweep_X2_parcelAt : GoodIn wsX2_sweep (wsV RX2 120 RX2 yX2_parcelAt wsX2_parcelAt) := goodIn_app (goodIn_of _ (by decide +kernel)) ggX2_sweep_X2_parcelAt
set_option maxRecDepth 20000 in
theorem ggX2_sweep_X2_fitsChute : GoodIn wsX2_sweep wsX2_fitsChute := goodIn_r _ [32, 33, 34, 35, 36, 37, 38, 7, 39, 40, 41, 42, 50, 51, 52, 53, 54, 55, 56, 57, 58, 59, 60, 61, 62, 63, 64, 65, 66, 67, 68, 69] (by decide +kernel) (by decide +kernel)
set_option maxRecDepth 20000 in
theorem gX2_sweep_X2_fitsChute : GoodIn wsX2_sweep (wsV RX2 106 RX2 yX2_fitsChute wsX2_fitsChute) := goodIn_app (goodIn_of _ (by decide +kernel)) ggX2_sweep_X2_fitsChute
set_option maxRecDepth 20000 in
theorem ggX2_sweep_X2_putAside : GoodIn wsX2_sweep wsX2_putAside := goodIn_r _ [46, 47, 48, 49, 50, 51, 52, 53, 54, 55, 56, 57, 58, 59, 60, 61, 62, 63, 64, 65, 66, 67, 68, 69] (by decide +kernel) (by decide +kernel)
set_option maxRecDepth 20000 in
theorem gX2_sweep_X2_putAside : GoodIn wsX2_sweep (wsV RX2 113 RX2 yX2_putAside wsX2_putAside) := goodIn_app (goodIn_of _ (by decide +kernel)) ggX2_sweep_X2_putAside
theorem dX2_sweep_0 : decode cX2_sweep 0 = .ok (.aload_n 0, 1) := by decide +kernel
theorem dX2_sweep_1 : decode cX2_sweep 1 = .ok (.iload_n 1, 1) := by decide +kernel
theorem dX2_sweep_2 : decode cX2_sweep 2 = .ok (.invokestatic 74, 3) := by decide +kernel
theorem dX2_sweep_5 : decode cX2_sweep 5 = .ok (.ifCond .eq 7, 3) := by decide +kernel
theorem dX2_sweep_8 : decode cX2_sweep 8 = .ok (.iconst 0, 1) := by decide +kernel
theorem dX2_sweep_9 : decode cX2_sweep 9 = .ok (.goto 4, 3) := by decide +kernel
theorem dX2_sweep_12 : decode cX2_sweep 12 = .ok (.iconst 1, 1) := by decide +kernel
theorem dX2_sweep_13 : decode cX2_sweep 13 = .ok (.putfield 38, 3) := by decide +kernel
theorem dX2_sweep_16 : decode cX2_sweep 16 = .ok (.aload_n 0, 1) := by decide +kernel
theorem dX2_sweep_17 : decode cX2_sweep 17 = .ok (.getfield 38, 3) := by decide +kernel
theorem dX2_sweep_20 : decode cX2_sweep 20 = .ok (.ifCond .eq 5, 3) := by decide +kernel
theorem dX2_sweep_23 : decode cX2_sweep 23 = .ok (.iconst 0, 1) := by decide +kernel
theorem dX2_sweep_24 : decode cX2_sweep 24 = .ok (.ireturn, 1) := by decide +kernel
theorem dX2_sweep_25 : decode cX2_sweep 25 = .ok (.iconst 0, 1) := by decide +kernel
theorem dX2_sweep_26 : decode cX2_sweep 26 = .ok (.istore_n 2, 1) := by decide +kernel
theorem dX2_sweep_27 : decode cX2_sweep 27 = .ok (.aload_n 0, 1) := by decide +kernel
theorem dX2_sweep_28 : decode cX2_sweep 28 = .ok (.iload_n 1, 1) := by decide +kernel
theorem dX2_sweep_29 : decode cX2_sweep 29 = .ok (.invokevirtual 78, 3) := by decide +kernel
theorem dX2_sweep_32 : decode cX2_sweep 32 = .ok (.istore_n 3, 1) := by decide +kernel
theorem dX2_sweep_33 : decode cX2_sweep 33 = .ok (.iconst 0, 1) := by decide +kernel
theorem dX2_sweep_34 : decode cX2_sweep 34 = .ok (.istore 4, 2) := by decide +kernel
theorem dX2_sweep_36 : decode cX2_sweep 36 = .ok (.iload 4, 2) := by decide +kernel
theorem dX2_sweep_38 : decode cX2_sweep 38 = .ok (.iload_n 3, 1) := by decide +kernel
theorem dX2_sweep_39 : decode cX2_sweep 39 = .ok (.if_icmp .ge 71, 3) := by decide +kernel
theorem dX2_sweep_42 : decode cX2_sweep 42 = .ok (.aload_n 0, 1) := by decide +kernel
theorem dX2_sweep_43 : decode cX2_sweep 43 = .ok (.iload_n 1, 1) := by decide +kernel
theorem dX2_sweep_44 : decode cX2_sweep 44 = .ok (.iload 4, 2) := by decide +kernel
theorem dX2_sweep_46 : decode cX2_sweep 46 = .ok (.iload_n 2, 1) := by decide +kernel
theorem dX2_sweep_47 : decode cX2_sweep 47 = .ok (.isub, 1) := by decide +kernel
theorem dX2_sweep_48 : decode cX2_sweep 48 = .ok (.invokevirtual 120, 3) := by decide +kernel
theorem dX2_sweep_51 : decode cX2_sweep 51 = .ok (.istore 5, 2) := by decide +kernel
theorem dX2_sweep_53 : decode cX2_sweep 53 = .ok (.aload_n 0, 1) := by decide +kernel
theorem dX2_sweep_54 : decode cX2_sweep 54 = .ok (.aload_n 0, 1) := by decide +kernel
theorem dX2_sweep_55 : decode cX2_sweep 55 = .ok (.getfield 13, 3) := by decide +kernel
theorem dX2_sweep_58 : decode cX2_sweep 58 = .ok (.iload 5, 2) := by decide +kernel
theorem dX2_sweep_60 : decode cX2_sweep 60 = .ok (.iaload, 1) := by decide +kernel
theorem dX2_sweep_61 : decode cX2_sweep 61 = .ok (.aload_n 0, 1) := by decide +kernel
theorem dX2_sweep_62 : decode cX2_sweep 62 = .ok (.getfield 16, 3) := by decide +kernel
theorem dX2_sweep_65 : decode cX2_sweep 65 = .ok (.iload 5, 2) := by decide +kernel
theorem dX2_sweep_67 : decode cX2_sweep 67 = .ok (.iaload, 1) := by decide +kernel
theorem dX2_sweep_68 : decode cX2_sweep 68 = .ok (.iload_n 1, 1) := by decide +kernel
theorem dX2_sweep_69 : decode cX2_sweep 69 = .ok (.invokevirtual 106, 3) := by decide +kernel
theorem dX2_sweep_72 : decode cX2_sweep 72 = .ok (.ifCond .ne 32, 3) := by decide +kernel
theorem dX2_sweep_75 : decode cX2_sweep 75 = .ok (.aload_n 0, 1) := by decide +kernel
theorem dX2_sweep_76 : decode cX2_sweep 76 = .ok (.aload_n 0, 1) := by decide +kernel
theorem dX2_sweep_77 : decode cX2_sweep 77 = .ok (.getfield 13, 3) := by decide +kernel
theorem dX2_sweep_80 : decode cX2_sweep 80 = .ok (.iload 5, 2) := by decide +kernel
theorem dX2_sweep_82 : decode cX2_sweep 82 = .ok (.iaload, 1) := by decide +kernel
theorem dX2_sweep_83 : decode cX2_sweep 83 = .ok (.aload_n 0, 1) := by decide +kernel
theorem dX2_sweep_84 : decode cX2_sweep 84 = .ok (.getfield 16, 3) := by decide +kernel
theorem dX2_sweep_87 : decode cX2_sweep 87 = .ok (.iload 5, 2) := by decide +kernel
theorem dX2_sweep_89 : decode cX2_sweep 89 = .ok (.iaload, 1) := by decide +kernel
theorem dX2_sweep_90 : decode cX2_sweep 90 = .ok (.invokevirtual 113, 3) := by decide +kernel
theorem dX2_sweep_93 : decode cX2_sweep 93 = .ok (.aload_n 0, 1) := by decide +kernel
theorem dX2_sweep_94 : decode cX2_sweep 94 = .ok (.getfield 7, 3) := by decide +kernel
theorem dX2_sweep_97 : decode cX2_sweep 97 = .ok (.iload 5, 2) := by decide +kernel
theorem dX2_sweep_99 : decode cX2_sweep 99 = .ok (.iconst (-1), 1) := by decide +kernel
theorem dX2_sweep_100 : decode cX2_sweep 100 = .ok (.iastore, 1) := by decide +kernel
theorem dX2_sweep_101 : decode cX2_sweep 101 = .ok (.iinc 2 1, 3) := by decide +kernel
theorem dX2_sweep_104 : decode cX2_sweep 104 = .ok (.iinc 4 1, 3) := by decide +kernel
theorem dX2_sweep_107 : decode cX2_sweep 107 = .ok (.goto (-71), 3) := by decide +kernel
theorem dX2_sweep_110 : decode cX2_sweep 110 = .ok (.iload_n 2, 1) := by decide +kernel
theorem dX2_sweep_111 : decode cX2_sweep 111 = .ok (.ireturn, 1) := by decide +kernel
theorem dX2_heaviestIn_0 : decode cX2_heaviestIn 0 = .ok (.iconst 0, 1) := by decide +kernel
theorem dX2_heaviestIn_1 : decode cX2_heaviestIn 1 = .ok (.istore_n 2, 1) := by decide +kernel
theorem dX2_heaviestIn_2 : decode cX2_heaviestIn 2 = .ok (.iconst 0, 1) := by decide +kernel
theorem dX2_heaviestIn_3 : decode cX2_heaviestIn 3 = .ok (.istore_n 3, 1) := by decide +kernel
theorem dX2_heaviestIn_4 : decode cX2_heaviestIn 4 = .ok (.iload_n 3, 1) := by decide +kernel
theorem dX2_heaviestIn_5 : decode cX2_heaviestIn 5 = .ok (.bipush 96, 2) := by decide +kernel
theorem dX2_heaviestIn_7 : decode cX2_heaviestIn 7 = .ok (.if_icmp .ge 40, 3) := by decide +kernel
theorem dX2_heaviestIn_10 : decode cX2_heaviestIn 10 = .ok (.aload_n 0, 1) := by decide +kernel
theorem dX2_heaviestIn_11 : decode cX2_heaviestIn 11 = .ok (.getfield 7, 3) := by decide +kernel
theorem dX2_heaviestIn_14 : decode cX2_heaviestIn 14 = .ok (.iload_n 3, 1) := by decide +kernel
theorem dX2_heaviestIn_15 : decode cX2_heaviestIn 15 = .ok (.iaload, 1) := by decide +kernel
theorem dX2_heaviestIn_16 : decode cX2_heaviestIn 16 = .ok (.iload_n 1, 1) := by decide +kernel
theorem dX2_heaviestIn_17 : decode cX2_heaviestIn 17 = .ok (.if_icmp .ne 22, 3) := by decide +kernel
theorem dX2_heaviestIn_20 : decode cX2_heaviestIn 20 = .ok (.aload_n 0, 1) := by decide +kernel
theorem dX2_heaviestIn_21 : decode cX2_heaviestIn 21 = .ok (.getfield 13, 3) := by decide +kernel
theorem dX2_heaviestIn_24 : decode cX2_heaviestIn 24 = .ok (.iload_n 3, 1) := by decide +kernel
theorem dX2_heaviestIn_25 : decode cX2_heaviestIn 25 = .ok (.iaload, 1) := by decide +kernel
