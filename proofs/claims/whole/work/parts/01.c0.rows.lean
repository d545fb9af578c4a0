theorem dX0_init_0 : decode cX0_init 0 = .ok (.aload_n 0, 1) := by decide +kernel
theorem dX0_init_1 : decode cX0_init 1 = .ok (.invokespecial 3, 3) := by decide +kernel
theorem dX0_init_4 : decode cX0_init 4 = .ok (.aload_n 0, 1) := by decide +kernel
theorem dX0_init_5 : decode cX0_init 5 = .ok (.bipush 12, 2) := by decide +kernel
theorem dX0_init_7 : decode cX0_init 7 = .ok (.newarray .int, 2) := by decide +kernel
theorem dX0_init_9 : decode cX0_init 9 = .ok (.putfield 9, 3) := by decide +kernel
theorem dX0_init_12 : decode cX0_init 12 = .ok (.aload_n 0, 1) := by decide +kernel
theorem dX0_init_13 : decode cX0_init 13 = .ok (.bipush 12, 2) := by decide +kernel
theorem dX0_init_15 : decode cX0_init 15 = .ok (.newarray .int, 2) := by decide +kernel
theorem dX0_init_17 : decode cX0_init 17 = .ok (.putfield 15, 3) := by decide +kernel
theorem dX0_init_20 : decode cX0_init 20 = .ok (.return_, 1) := by decide +kernel
set_option maxRecDepth 20000 in
theorem ggX0_suits_X1_holds : GoodIn wsX0_suits wsX1_holds := goodIn_r _ [7, 8, 9, 6, 10] (by decide +kernel) (by decide +kernel)
set_option maxRecDepth 20000 in
theorem gX0_suits_X1_holds_n25 : GoodIn wsX0_suits (wsX1_holds) := ggX0_suits_X1_holds
theorem dX0_suits_0 : decode cX0_suits 0 = .ok (.aload_n 0, 1) := by decide +kernel
theorem dX0_suits_1 : decode cX0_suits 1 = .ok (.getfield 18, 3) := by decide +kernel
theorem dX0_suits_4 : decode cX0_suits 4 = .ok (.tableswitch 194 0 3 #[32, 74, 117, 149], 32) := by decide +kernel
theorem dX0_suits_36 : decode cX0_suits 36 = .ok (.aload_n 0, 1) := by decide +kernel
theorem dX0_suits_37 : decode cX0_suits 37 = .ok (.getfield 22, 3) := by decide +kernel
theorem dX0_suits_40 : decode cX0_suits 40 = .ok (.iconst 2, 1) := by decide +kernel
theorem dX0_suits_41 : decode cX0_suits 41 = .ok (.iload_n 1, 1) := by decide +kernel
theorem dX0_suits_42 : decode cX0_suits 42 = .ok (.invokestatic 25, 3) := by decide +kernel
theorem dX0_suits_45 : decode cX0_suits 45 = .ok (.ifCond .eq 31, 3) := by decide +kernel
theorem dX0_suits_48 : decode cX0_suits 48 = .ok (.iload_n 1, 1) := by decide +kernel
theorem dX0_suits_49 : decode cX0_suits 49 = .ok (.iconst 1, 1) := by decide +kernel
theorem dX0_suits_50 : decode cX0_suits 50 = .ok (.aload_n 0, 1) := by decide +kernel
theorem dX0_suits_51 : decode cX0_suits 51 = .ok (.getfield 29, 3) := by decide +kernel
theorem dX0_suits_54 : decode cX0_suits 54 = .ok (.invokestatic 25, 3) := by decide +kernel
theorem dX0_suits_57 : decode cX0_suits 57 = .ok (.ifCond .eq 19, 3) := by decide +kernel
theorem dX0_suits_60 : decode cX0_suits 60 = .ok (.iload_n 2, 1) := by decide +kernel
theorem dX0_suits_61 : decode cX0_suits 61 = .ok (.iconst 2, 1) := by decide +kernel
theorem dX0_suits_62 : decode cX0_suits 62 = .ok (.aload_n 0, 1) := by decide +kernel
theorem dX0_suits_63 : decode cX0_suits 63 = .ok (.getfield 32, 3) := by decide +kernel
theorem dX0_suits_66 : decode cX0_suits 66 = .ok (.invokestatic 25, 3) := by decide +kernel
theorem dX0_suits_69 : decode cX0_suits 69 = .ok (.ifCond .eq 7, 3) := by decide +kernel
theorem dX0_suits_72 : decode cX0_suits 72 = .ok (.iconst 1, 1) := by decide +kernel
theorem dX0_suits_73 : decode cX0_suits 73 = .ok (.goto 4, 3) := by decide +kernel
theorem dX0_suits_76 : decode cX0_suits 76 = .ok (.iconst 0, 1) := by decide +kernel
theorem dX0_suits_77 : decode cX0_suits 77 = .ok (.ireturn, 1) := by decide +kernel
theorem dX0_suits_78 : decode cX0_suits 78 = .ok (.iload_n 1, 1) := by decide +kernel
theorem dX0_suits_79 : decode cX0_suits 79 = .ok (.iconst 1, 1) := by decide +kernel
theorem dX0_suits_80 : decode cX0_suits 80 = .ok (.aload_n 0, 1) := by decide +kernel
theorem dX0_suits_81 : decode cX0_suits 81 = .ok (.getfield 22, 3) := by decide +kernel
theorem dX0_suits_84 : decode cX0_suits 84 = .ok (.invokestatic 25, 3) := by decide +kernel
theorem dX0_suits_87 : decode cX0_suits 87 = .ok (.ifCond .ne 32, 3) := by decide +kernel
theorem dX0_suits_90 : decode cX0_suits 90 = .ok (.iload_n 1, 1) := by decide +kernel
theorem dX0_suits_91 : decode cX0_suits 91 = .ok (.bipush 8, 2) := by decide +kernel
theorem dX0_suits_93 : decode cX0_suits 93 = .ok (.aload_n 0, 1) := by decide +kernel
theorem dX0_suits_94 : decode cX0_suits 94 = .ok (.getfield 29, 3) := by decide +kernel
theorem dX0_suits_97 : decode cX0_suits 97 = .ok (.invokestatic 25, 3) := by decide +kernel
theorem dX0_suits_100 : decode cX0_suits 100 = .ok (.ifCond .ne 19, 3) := by decide +kernel
theorem dX0_suits_103 : decode cX0_suits 103 = .ok (.iload_n 2, 1) := by decide +kernel
theorem dX0_suits_104 : decode cX0_suits 104 = .ok (.iconst 4, 1) := by decide +kernel
theorem dX0_suits_105 : decode cX0_suits 105 = .ok (.aload_n 0, 1) := by decide +kernel
theorem dX0_suits_106 : decode cX0_suits 106 = .ok (.getfield 32, 3) := by decide +kernel
theorem dX0_suits_109 : decode cX0_suits 109 = .ok (.invokestatic 25, 3) := by decide +kernel
theorem dX0_suits_112 : decode cX0_suits 112 = .ok (.ifCond .ne 7, 3) := by decide +kernel
theorem dX0_suits_115 : decode cX0_suits 115 = .ok (.iconst 1, 1) := by decide +kernel
theorem dX0_suits_116 : decode cX0_suits 116 = .ok (.goto 4, 3) := by decide +kernel
theorem dX0_suits_119 : decode cX0_suits 119 = .ok (.iconst 0, 1) := by decide +kernel
theorem dX0_suits_120 : decode cX0_suits 120 = .ok (.ireturn, 1) := by decide +kernel
theorem dX0_suits_121 : decode cX0_suits 121 = .ok (.iload_n 1, 1) := by decide +kernel
theorem dX0_suits_122 : decode cX0_suits 122 = .ok (.bipush 16, 2) := by decide +kernel
theorem dX0_suits_124 : decode cX0_suits 124 = .ok (.aload_n 0, 1) := by decide +kernel
theorem dX0_suits_125 : decode cX0_suits 125 = .ok (.getfield 22, 3) := by decide +kernel
theorem dX0_suits_128 : decode cX0_suits 128 = .ok (.invokestatic 25, 3) := by decide +kernel
theorem dX0_suits_131 : decode cX0_suits 131 = .ok (.ifCond .ne 16, 3) := by decide +kernel
theorem dX0_suits_134 : decode cX0_suits 134 = .ok (.iload_n 2, 1) := by decide +kernel
theorem dX0_suits_135 : decode cX0_suits 135 = .ok (.bipush 16, 2) := by decide +kernel
theorem dX0_suits_137 : decode cX0_suits 137 = .ok (.aload_n 0, 1) := by decide +kernel
theorem dX0_suits_138 : decode cX0_suits 138 = .ok (.getfield 32, 3) := by decide +kernel
theorem dX0_suits_141 : decode cX0_suits 141 = .ok (.invokestatic 25, 3) := by decide +kernel
theorem dX0_suits_144 : decode cX0_suits 144 = .ok (.ifCond .eq 7, 3) := by decide +kernel
theorem dX0_suits_147 : decode cX0_suits 147 = .ok (.iconst 1, 1) := by decide +kernel
theorem dX0_suits_148 : decode cX0_suits 148 = .ok (.goto 4, 3) := by decide +kernel
theorem dX0_suits_151 : decode cX0_suits 151 = .ok (.iconst 0, 1) := by decide +kernel
theorem dX0_suits_152 : decode cX0_suits 152 = .ok (.ireturn, 1) := by decide +kernel
theorem dX0_suits_153 : decode cX0_suits 153 = .ok (.iload_n 1, 1) := by decide +kernel
theorem dX0_suits_154 : decode cX0_suits 154 = .ok (.bipush 32, 2) := by decide +kernel
theorem dX0_suits_156 : decode cX0_suits 156 = .ok (.aload_n 0, 1) := by decide +kernel
theorem dX0_suits_157 : decode cX0_suits 157 = .ok (.getfield 22, 3) := by decide +kernel
theorem dX0_suits_160 : decode cX0_suits 160 = .ok (.invokestatic 25, 3) := by decide +kernel
theorem dX0_suits_163 : decode cX0_suits 163 = .ok (.ifCond .eq 33, 3) := by decide +kernel
theorem dX0_suits_166 : decode cX0_suits 166 = .ok (.iload_n 1, 1) := by decide +kernel
theorem dX0_suits_167 : decode cX0_suits 167 = .ok (.bipush 32, 2) := by decide +kernel
theorem dX0_suits_169 : decode cX0_suits 169 = .ok (.aload_n 0, 1) := by decide +kernel
theorem dX0_suits_170 : decode cX0_suits 170 = .ok (.getfield 29, 3) := by decide +kernel
theorem dX0_suits_173 : decode cX0_suits 173 = .ok (.invokestatic 25, 3) := by decide +kernel
theorem dX0_suits_176 : decode cX0_suits 176 = .ok (.ifCond .eq 20, 3) := by decide +kernel
theorem dX0_suits_179 : decode cX0_suits 179 = .ok (.iload_n 2, 1) := by decide +kernel
theorem dX0_suits_180 : decode cX0_suits 180 = .ok (.bipush 32, 2) := by decide +kernel
theorem dX0_suits_182 : decode cX0_suits 182 = .ok (.aload_n 0, 1) := by decide +kernel
theorem dX0_suits_183 : decode cX0_suits 183 = .ok (.getfield 32, 3) := by decide +kernel
theorem dX0_suits_186 : decode cX0_suits 186 = .ok (.invokestatic 25, 3) := by decide +kernel
theorem dX0_suits_189 : decode cX0_suits 189 = .ok (.ifCond .eq 7, 3) := by decide +kernel
theorem dX0_suits_192 : decode cX0_suits 192 = .ok (.iconst 1, 1) := by decide +kernel
theorem dX0_suits_193 : decode cX0_suits 193 = .ok (.goto 4, 3) := by decide +kernel
theorem dX0_suits_196 : decode cX0_suits 196 = .ok (.iconst 0, 1) := by decide +kernel
theorem dX0_suits_197 : decode cX0_suits 197 = .ok (.ireturn, 1) := by decide +kernel
theorem dX0_suits_198 : decode cX0_suits 198 = .ok (.iload_n 1, 1) := by decide +kernel
theorem dX0_suits_199 : decode cX0_suits 199 = .ok (.iconst 4, 1) := by decide +kernel
theorem dX0_suits_200 : decode cX0_suits 200 = .ok (.aload_n 0, 1) := by decide +kernel
theorem dX0_suits_201 : decode cX0_suits 201 = .ok (.getfield 29, 3) := by decide +kernel
theorem dX0_suits_204 : decode cX0_suits 204 = .ok (.invokestatic 25, 3) := by decide +kernel
theorem dX0_suits_207 : decode cX0_suits 207 = .ok (.ifCond .ne 28, 3) := by decide +kernel
theorem dX0_suits_210 : decode cX0_suits 210 = .ok (.iload_n 1, 1) := by decide +kernel
theorem dX0_suits_211 : decode cX0_suits 211 = .ok (.iconst 1, 1) := by decide +kernel
theorem dX0_suits_212 : decode cX0_suits 212 = .ok (.aload_n 0, 1) := by decide +kernel
theorem dX0_suits_213 : decode cX0_suits 213 = .ok (.getfield 22, 3) := by decide +kernel
theorem dX0_suits_216 : decode cX0_suits 216 = .ok (.invokestatic 25, 3) := by decide +kernel
theorem dX0_suits_219 : decode cX0_suits 219 = .ok (.ifCond .ne 16, 3) := by decide +kernel
theorem dX0_suits_222 : decode cX0_suits 222 = .ok (.iload_n 2, 1) := by decide +kernel
theorem dX0_suits_223 : decode cX0_suits 223 = .ok (.bipush 8, 2) := by decide +kernel
theorem dX0_suits_225 : decode cX0_suits 225 = .ok (.aload_n 0, 1) := by decide +kernel
theorem dX0_suits_226 : decode cX0_suits 226 = .ok (.getfield 32, 3) := by decide +kernel
theorem dX0_suits_229 : decode cX0_suits 229 = .ok (.invokestatic 25, 3) := by decide +kernel
theorem dX0_suits_232 : decode cX0_suits 232 = .ok (.ifCond .eq 7, 3) := by decide +kernel
theorem dX0_suits_235 : decode cX0_suits 235 = .ok (.iconst 1, 1) := by decide +kernel
theorem dX0_suits_236 : decode cX0_suits 236 = .ok (.goto 4, 3) := by decide +kernel
theorem dX0_suits_239 : decode cX0_suits 239 = .ok (.iconst 0, 1) := by decide +kernel
theorem dX0_suits_240 : decode cX0_suits 240 = .ok (.ireturn, 1) := by decide +kernel
set_option maxRecDepth 20000 in
theorem ggX0_letIn_X0_suits : GoodIn wsX0_letIn wsX0_suits := goodIn_r _ [8, 9, 10, 11, 12, 13, 14, 15, 16, 17, 18, 23, 24, 25, 26, 27, 28, 29, 30] (by decide +kernel) (by decide +kernel)
set_option maxRecDepth 20000 in
theorem gX0_letIn_X0_suits : GoodIn wsX0_letIn (wsV RX0 38 RX0 yX0_suits wsX0_suits) := goodIn_app (goodIn_of _ (by decide +kernel)) ggX0_letIn_X0_suits
set_option maxRecDepth 20000 in
theorem ggX0_letIn_X0_placeFor : GoodIn wsX0_letIn wsX0_placeFor := goodIn_r _ [22, 1, 2, 13, 14, 15, 16, 17, 18, 23, 24, 25, 26, 27, 28, 29, 30] (by decide +kernel) (by decide +kernel)
set_option maxRecDepth 20000 in
theorem gX0_letIn_X0_placeFor : GoodIn wsX0_letIn (wsV RX0 42 RX0 yX0_placeFor wsX0_placeFor) := goodIn_app (goodIn_of _ (by decide +kernel)) ggX0_letIn_X0_placeFor
theorem dX0_letIn_0 : decode cX0_letIn 0 = .ok (.aload_n 0, 1) := by decide +kernel
theorem dX0_letIn_1 : decode cX0_letIn 1 = .ok (.getfield 35, 3) := by decide +kernel
theorem dX0_letIn_4 : decode cX0_letIn 4 = .ok (.bipush 12, 2) := by decide +kernel
theorem dX0_letIn_6 : decode cX0_letIn 6 = .ok (.if_icmp .ge 12, 3) := by decide +kernel
theorem dX0_letIn_9 : decode cX0_letIn 9 = .ok (.aload_n 0, 1) := by decide +kernel
theorem dX0_letIn_10 : decode cX0_letIn 10 = .ok (.iload_n 1, 1) := by decide +kernel
theorem dX0_letIn_11 : decode cX0_letIn 11 = .ok (.iload_n 2, 1) := by decide +kernel
theorem dX0_letIn_12 : decode cX0_letIn 12 = .ok (.invokevirtual 38, 3) := by decide +kernel
theorem dX0_letIn_15 : decode cX0_letIn 15 = .ok (.ifCond .ne 5, 3) := by decide +kernel
theorem dX0_letIn_18 : decode cX0_letIn 18 = .ok (.iconst 0, 1) := by decide +kernel
theorem dX0_letIn_19 : decode cX0_letIn 19 = .ok (.ireturn, 1) := by decide +kernel
theorem dX0_letIn_20 : decode cX0_letIn 20 = .ok (.aload_n 0, 1) := by decide +kernel
theorem dX0_letIn_21 : decode cX0_letIn 21 = .ok (.iload_n 1, 1) := by decide +kernel
theorem dX0_letIn_22 : decode cX0_letIn 22 = .ok (.invokevirtual 42, 3) := by decide +kernel
theorem dX0_letIn_25 : decode cX0_letIn 25 = .ok (.istore_n 3, 1) := by decide +kernel
theorem dX0_letIn_26 : decode cX0_letIn 26 = .ok (.aload_n 0, 1) := by decide +kernel
theorem dX0_letIn_27 : decode cX0_letIn 27 = .ok (.getfield 35, 3) := by decide +kernel
theorem dX0_letIn_30 : decode cX0_letIn 30 = .ok (.istore 4, 2) := by decide +kernel
theorem dX0_letIn_32 : decode cX0_letIn 32 = .ok (.iload 4, 2) := by decide +kernel
theorem dX0_letIn_34 : decode cX0_letIn 34 = .ok (.iload_n 3, 1) := by decide +kernel
theorem dX0_letIn_35 : decode cX0_letIn 35 = .ok (.if_icmp .le 41, 3) := by decide +kernel
theorem dX0_letIn_38 : decode cX0_letIn 38 = .ok (.aload_n 0, 1) := by decide +kernel
theorem dX0_letIn_39 : decode cX0_letIn 39 = .ok (.getfield 9, 3) := by decide +kernel
theorem dX0_letIn_42 : decode cX0_letIn 42 = .ok (.iload 4, 2) := by decide +kernel
theorem dX0_letIn_44 : decode cX0_letIn 44 = .ok (.aload_n 0, 1) := by decide +kernel
theorem dX0_letIn_45 : decode cX0_letIn 45 = .ok (.getfield 9, 3) := by decide +kernel
theorem dX0_letIn_48 : decode cX0_letIn 48 = .ok (.iload 4, 2) := by decide +kernel
theorem dX0_letIn_50 : decode cX0_letIn 50 = .ok (.iconst 1, 1) := by decide +kernel
theorem dX0_letIn_51 : decode cX0_letIn 51 = .ok (.isub, 1) := by decide +kernel
theorem dX0_letIn_52 : decode cX0_letIn 52 = .ok (.iaload, 1) := by decide +kernel
theorem dX0_letIn_53 : decode cX0_letIn 53 = .ok (.iastore, 1) := by decide +kernel
theorem dX0_letIn_54 : decode cX0_letIn 54 = .ok (.aload_n 0, 1) := by decide +kernel
theorem dX0_letIn_55 : decode cX0_letIn 55 = .ok (.getfield 15, 3) := by decide +kernel
theorem dX0_letIn_58 : decode cX0_letIn 58 = .ok (.iload 4, 2) := by decide +kernel
theorem dX0_letIn_60 : decode cX0_letIn 60 = .ok (.aload_n 0, 1) := by decide +kernel
theorem dX0_letIn_61 : decode cX0_letIn 61 = .ok (.getfield 15, 3) := by decide +kernel
theorem dX0_letIn_64 : decode cX0_letIn 64 = .ok (.iload 4, 2) := by decide +kernel
theorem dX0_letIn_66 : decode cX0_letIn 66 = .ok (.iconst 1, 1) := by decide +kernel
theorem dX0_letIn_67 : decode cX0_letIn 67 = .ok (.isub, 1) := by decide +kernel
theorem dX0_letIn_68 : decode cX0_letIn 68 = .ok (.iaload, 1) := by decide +kernel
theorem dX0_letIn_69 : decode cX0_letIn 69 = .ok (.iastore, 1) := by decide +kernel
theorem dX0_letIn_70 : decode cX0_letIn 70 = .ok (.iinc 4 (-1), 3) := by decide +kernel
theorem dX0_letIn_73 : decode cX0_letIn 73 = .ok (.goto (-41), 3) := by decide +kernel
theorem dX0_letIn_76 : decode cX0_letIn 76 = .ok (.aload_n 0, 1) := by decide +kernel
theorem dX0_letIn_77 : decode cX0_letIn 77 = .ok (.getfield 9, 3) := by decide +kernel
theorem dX0_letIn_80 : decode cX0_letIn 80 = .ok (.iload_n 3, 1) := by decide +kernel
theorem dX0_letIn_81 : decode cX0_letIn 81 = .ok (.iload_n 1, 1) := by decide +kernel
theorem dX0_letIn_82 : decode cX0_letIn 82 = .ok (.iastore, 1) := by decide +kernel
theorem dX0_letIn_83 : decode cX0_letIn 83 = .ok (.aload_n 0, 1) := by decide +kernel
theorem dX0_letIn_84 : decode cX0_letIn 84 = .ok (.getfield 15, 3) := by decide +kernel
theorem dX0_letIn_87 : decode cX0_letIn 87 = .ok (.iload_n 3, 1) := by decide +kernel
theorem dX0_letIn_88 : decode cX0_letIn 88 = .ok (.iload_n 2, 1) := by decide +kernel
theorem dX0_letIn_89 : decode cX0_letIn 89 = .ok (.iastore, 1) := by decide +kernel
theorem dX0_letIn_90 : decode cX0_letIn 90 = .ok (.aload_n 0, 1) := by decide +kernel
theorem dX0_letIn_91 : decode cX0_letIn 91 = .ok (.dup, 1) := by decide +kernel
theorem dX0_letIn_92 : decode cX0_letIn 92 = .ok (.getfield 35, 3) := by decide +kernel
theorem dX0_letIn_95 : decode cX0_letIn 95 = .ok (.iconst 1, 1) := by decide +kernel
theorem dX0_letIn_96 : decode cX0_letIn 96 = .ok (.iadd, 1) := by decide +kernel
theorem dX0_letIn_97 : decode cX0_letIn 97 = .ok (.putfield 35, 3) := by decide +kernel
theorem dX0_letIn_100 : decode cX0_letIn 100 = .ok (.iconst 1, 1) := by decide +kernel
theorem dX0_letIn_101 : decode cX0_letIn 101 = .ok (.ireturn, 1) := by decide +kernel
set_option maxRecDepth 20000 in
theorem ggX0_placeFor_X1_holds : GoodIn wsX0_placeFor wsX1_holds := goodIn_r _ [5, 6, 7, 4, 8] (by decide +kernel) (by decide +kernel)
set_option maxRecDepth 20000 in
theorem gX0_placeFor_X1_holds_n25 : GoodIn wsX0_placeFor (wsX1_holds) := ggX0_placeFor_X1_holds
theorem dX0_placeFor_0 : decode cX0_placeFor 0 = .ok (.iload_n 1, 1) := by decide +kernel
theorem dX0_placeFor_1 : decode cX0_placeFor 1 = .ok (.ifCond .ne 8, 3) := by decide +kernel
theorem dX0_placeFor_4 : decode cX0_placeFor 4 = .ok (.aload_n 0, 1) := by decide +kernel
theorem dX0_placeFor_5 : decode cX0_placeFor 5 = .ok (.getfield 35, 3) := by decide +kernel
theorem dX0_placeFor_8 : decode cX0_placeFor 8 = .ok (.ireturn, 1) := by decide +kernel
theorem dX0_placeFor_9 : decode cX0_placeFor 9 = .ok (.iconst 0, 1) := by decide +kernel
theorem dX0_placeFor_10 : decode cX0_placeFor 10 = .ok (.istore_n 2, 1) := by decide +kernel
theorem dX0_placeFor_11 : decode cX0_placeFor 11 = .ok (.iload_n 2, 1) := by decide +kernel
theorem dX0_placeFor_12 : decode cX0_placeFor 12 = .ok (.aload_n 0, 1) := by decide +kernel
theorem dX0_placeFor_13 : decode cX0_placeFor 13 = .ok (.getfield 35, 3) := by decide +kernel
theorem dX0_placeFor_16 : decode cX0_placeFor 16 = .ok (.if_icmp .ge 23, 3) := by decide +kernel
theorem dX0_placeFor_19 : decode cX0_placeFor 19 = .ok (.aload_n 0, 1) := by decide +kernel
theorem dX0_placeFor_20 : decode cX0_placeFor 20 = .ok (.getfield 9, 3) := by decide +kernel
theorem dX0_placeFor_23 : decode cX0_placeFor 23 = .ok (.iload_n 2, 1) := by decide +kernel
theorem dX0_placeFor_24 : decode cX0_placeFor 24 = .ok (.iaload, 1) := by decide +kernel
theorem dX0_placeFor_25 : decode cX0_placeFor 25 = .ok (.iconst 2, 1) := by decide +kernel
theorem dX0_placeFor_26 : decode cX0_placeFor 26 = .ok (.iload_n 1, 1) := by decide +kernel
theorem dX0_placeFor_27 : decode cX0_placeFor 27 = .ok (.invokestatic 25, 3) := by decide +kernel
theorem dX0_placeFor_30 : decode cX0_placeFor 30 = .ok (.ifCond .eq 9, 3) := by decide +kernel
theorem dX0_placeFor_33 : decode cX0_placeFor 33 = .ok (.iinc 2 1, 3) := by decide +kernel
theorem dX0_placeFor_36 : decode cX0_placeFor 36 = .ok (.goto (-25), 3) := by decide +kernel
theorem dX0_placeFor_39 : decode cX0_placeFor 39 = .ok (.iload_n 2, 1) := by decide +kernel
theorem dX0_placeFor_40 : decode cX0_placeFor 40 = .ok (.ireturn, 1) := by decide +kernel
theorem dX0_firstOf_0 : decode cX0_firstOf 0 = .ok (.iconst 0, 1) := by decide +kernel
theorem dX0_firstOf_1 : decode cX0_firstOf 1 = .ok (.istore_n 2, 1) := by decide +kernel
theorem dX0_firstOf_2 : decode cX0_firstOf 2 = .ok (.iload_n 2, 1) := by decide +kernel
theorem dX0_firstOf_3 : decode cX0_firstOf 3 = .ok (.aload_n 0, 1) := by decide +kernel
theorem dX0_firstOf_4 : decode cX0_firstOf 4 = .ok (.getfield 35, 3) := by decide +kernel
theorem dX0_firstOf_7 : decode cX0_firstOf 7 = .ok (.if_icmp .ge 21, 3) := by decide +kernel
theorem dX0_firstOf_10 : decode cX0_firstOf 10 = .ok (.aload_n 0, 1) := by decide +kernel
theorem dX0_firstOf_11 : decode cX0_firstOf 11 = .ok (.getfield 9, 3) := by decide +kernel
theorem dX0_firstOf_14 : decode cX0_firstOf 14 = .ok (.iload_n 2, 1) := by decide +kernel
theorem dX0_firstOf_15 : decode cX0_firstOf 15 = .ok (.iaload, 1) := by decide +kernel
theorem dX0_firstOf_16 : decode cX0_firstOf 16 = .ok (.iload_n 1, 1) := by decide +kernel
theorem dX0_firstOf_17 : decode cX0_firstOf 17 = .ok (.if_icmp .ne 5, 3) := by decide +kernel
theorem dX0_firstOf_20 : decode cX0_firstOf 20 = .ok (.iload_n 2, 1) := by decide +kernel
theorem dX0_firstOf_21 : decode cX0_firstOf 21 = .ok (.ireturn, 1) := by decide +kernel
theorem dX0_firstOf_22 : decode cX0_firstOf 22 = .ok (.iinc 2 1, 3) := by decide +kernel
theorem dX0_firstOf_25 : decode cX0_firstOf 25 = .ok (.goto (-23), 3) := by decide +kernel
theorem dX0_firstOf_28 : decode cX0_firstOf 28 = .ok (.iconst (-1), 1) := by decide +kernel
theorem dX0_firstOf_29 : decode cX0_firstOf 29 = .ok (.ireturn, 1) := by decide +kernel
theorem dX0_removeAt_0 : decode cX0_removeAt 0 = .ok (.aload_n 0, 1) := by decide +kernel
theorem dX0_removeAt_1 : decode cX0_removeAt 1 = .ok (.dup, 1) := by decide +kernel
theorem dX0_removeAt_2 : decode cX0_removeAt 2 = .ok (.getfield 35, 3) := by decide +kernel
theorem dX0_removeAt_5 : decode cX0_removeAt 5 = .ok (.iconst 1, 1) := by decide +kernel
theorem dX0_removeAt_6 : decode cX0_removeAt 6 = .ok (.isub, 1) := by decide +kernel
theorem dX0_removeAt_7 : decode cX0_removeAt 7 = .ok (.putfield 35, 3) := by decide +kernel
theorem dX0_removeAt_10 : decode cX0_removeAt 10 = .ok (.iload_n 1, 1) := by decide +kernel
theorem dX0_removeAt_11 : decode cX0_removeAt 11 = .ok (.istore_n 2, 1) := by decide +kernel
theorem dX0_removeAt_12 : decode cX0_removeAt 12 = .ok (.iload_n 2, 1) := by decide +kernel
theorem dX0_removeAt_13 : decode cX0_removeAt 13 = .ok (.aload_n 0, 1) := by decide +kernel
theorem dX0_removeAt_14 : decode cX0_removeAt 14 = .ok (.getfield 35, 3) := by decide +kernel
theorem dX0_removeAt_17 : decode cX0_removeAt 17 = .ok (.if_icmp .ge 37, 3) := by decide +kernel
theorem dX0_removeAt_20 : decode cX0_removeAt 20 = .ok (.aload_n 0, 1) := by decide +kernel
theorem dX0_removeAt_21 : decode cX0_removeAt 21 = .ok (.getfield 9, 3) := by decide +kernel
theorem dX0_removeAt_24 : decode cX0_removeAt 24 = .ok (.iload_n 2, 1) := by decide +kernel
theorem dX0_removeAt_25 : decode cX0_removeAt 25 = .ok (.aload_n 0, 1) := by decide +kernel
theorem dX0_removeAt_26 : decode cX0_removeAt 26 = .ok (.getfield 9, 3) := by decide +kernel
theorem dX0_removeAt_29 : decode cX0_removeAt 29 = .ok (.iload_n 2, 1) := by decide +kernel
theorem dX0_removeAt_30 : decode cX0_removeAt 30 = .ok (.iconst 1, 1) := by decide +kernel
theorem dX0_removeAt_31 : decode cX0_removeAt 31 = .ok (.iadd, 1) := by decide +kernel
theorem dX0_removeAt_32 : decode cX0_removeAt 32 = .ok (.iaload, 1) := by decide +kernel
theorem dX0_removeAt_33 : decode cX0_removeAt 33 = .ok (.iastore, 1) := by decide +kernel
theorem dX0_removeAt_34 : decode cX0_removeAt 34 = .ok (.aload_n 0, 1) := by decide +kernel
theorem dX0_removeAt_35 : decode cX0_removeAt 35 = .ok (.getfield 15, 3) := by decide +kernel
theorem dX0_removeAt_38 : decode cX0_removeAt 38 = .ok (.iload_n 2, 1) := by decide +kernel
theorem dX0_removeAt_39 : decode cX0_removeAt 39 = .ok (.aload_n 0, 1) := by decide +kernel
theorem dX0_removeAt_40 : decode cX0_removeAt 40 = .ok (.getfield 15, 3) := by decide +kernel
theorem dX0_removeAt_43 : decode cX0_removeAt 43 = .ok (.iload_n 2, 1) := by decide +kernel
theorem dX0_removeAt_44 : decode cX0_removeAt 44 = .ok (.iconst 1, 1) := by decide +kernel
theorem dX0_removeAt_45 : decode cX0_removeAt 45 = .ok (.iadd, 1) := by decide +kernel
theorem dX0_removeAt_46 : decode cX0_removeAt 46 = .ok (.iaload, 1) := by decide +kernel
theorem dX0_removeAt_47 : decode cX0_removeAt 47 = .ok (.iastore, 1) := by decide +kernel
theorem dX0_removeAt_48 : decode cX0_removeAt 48 = .ok (.iinc 2 1, 3) := by decide +kernel
theorem dX0_removeAt_51 : decode cX0_removeAt 51 = .ok (.goto (-39), 3) := by decide +kernel
theorem dX0_removeAt_54 : decode cX0_removeAt 54 = .ok (.return_, 1) := by decide +kernel
set_option maxRecDepth 20000 in
theorem ggX0_unknownIn_X1_oneIf : GoodIn wsX0_unknownIn wsX1_oneIf := goodIn_r _ [4] (by decide +kernel) (by decide +kernel)
set_option maxRecDepth 20000 in
theorem gX0_unknownIn_X1_oneIf_n46 : GoodIn wsX0_unknownIn (wsX1_oneIf) := ggX0_unknownIn_X1_oneIf
theorem dX0_unknownIn_0 : decode cX0_unknownIn 0 = .ok (.iconst 0, 1) := by decide +kernel
theorem dX0_unknownIn_1 : decode cX0_unknownIn 1 = .ok (.istore_n 2, 1) := by decide +kernel
theorem dX0_unknownIn_2 : decode cX0_unknownIn 2 = .ok (.iconst 0, 1) := by decide +kernel
theorem dX0_unknownIn_3 : decode cX0_unknownIn 3 = .ok (.istore_n 3, 1) := by decide +kernel
theorem dX0_unknownIn_4 : decode cX0_unknownIn 4 = .ok (.iload_n 3, 1) := by decide +kernel
theorem dX0_unknownIn_5 : decode cX0_unknownIn 5 = .ok (.aload_n 0, 1) := by decide +kernel
theorem dX0_unknownIn_6 : decode cX0_unknownIn 6 = .ok (.getfield 35, 3) := by decide +kernel
theorem dX0_unknownIn_9 : decode cX0_unknownIn 9 = .ok (.if_icmp .ge 26, 3) := by decide +kernel
theorem dX0_unknownIn_12 : decode cX0_unknownIn 12 = .ok (.iload_n 2, 1) := by decide +kernel
theorem dX0_unknownIn_13 : decode cX0_unknownIn 13 = .ok (.aload_n 1, 1) := by decide +kernel
theorem dX0_unknownIn_14 : decode cX0_unknownIn 14 = .ok (.iload_n 3, 1) := by decide +kernel
theorem dX0_unknownIn_15 : decode cX0_unknownIn 15 = .ok (.iaload, 1) := by decide +kernel
theorem dX0_unknownIn_16 : decode cX0_unknownIn 16 = .ok (.ifCond .ne 7, 3) := by decide +kernel
theorem dX0_unknownIn_19 : decode cX0_unknownIn 19 = .ok (.iconst 1, 1) := by decide +kernel
theorem dX0_unknownIn_20 : decode cX0_unknownIn 20 = .ok (.goto 4, 3) := by decide +kernel
theorem dX0_unknownIn_23 : decode cX0_unknownIn 23 = .ok (.iconst 0, 1) := by decide +kernel
theorem dX0_unknownIn_24 : decode cX0_unknownIn 24 = .ok (.invokestatic 46, 3) := by decide +kernel
theorem dX0_unknownIn_27 : decode cX0_unknownIn 27 = .ok (.iadd, 1) := by decide +kernel
theorem dX0_unknownIn_28 : decode cX0_unknownIn 28 = .ok (.istore_n 2, 1) := by decide +kernel
theorem dX0_unknownIn_29 : decode cX0_unknownIn 29 = .ok (.iinc 3 1, 3) := by decide +kernel
theorem dX0_unknownIn_32 : decode cX0_unknownIn 32 = .ok (.goto (-28), 3) := by decide +kernel
theorem dX0_unknownIn_35 : decode cX0_unknownIn 35 = .ok (.iload_n 2, 1) := by decide +kernel
theorem dX0_unknownIn_36 : decode cX0_unknownIn 36 = .ok (.ireturn, 1) := by decide +kernel
set_option maxRecDepth 20000 in
theorem ggX0_heaviestKnown_X0_unknownIn : GoodIn wsX0_heaviestKnown wsX0_unknownIn := goodIn_r _ [7, 1, 8, 9, 10, 11, 12, 13, 14, 15, 16, 17, 18] (by decide +kernel) (by decide +kernel)
set_option maxRecDepth 20000 in
theorem gX0_heaviestKnown_X0_unknownIn : GoodIn wsX0_heaviestKnown (wsV RX0 50 RX0 yX0_unknownIn wsX0_unknownIn) := goodIn_app (goodIn_of _ (by decide +kernel)) ggX0_heaviestKnown_X0_unknownIn
theorem dX0_heaviestKnown_0 : decode cX0_heaviestKnown 0 = .ok (.aload_n 0, 1) := by decide +kernel
theorem dX0_heaviestKnown_1 : decode cX0_heaviestKnown 1 = .ok (.getfield 35, 3) := by decide +kernel
theorem dX0_heaviestKnown_4 : decode cX0_heaviestKnown 4 = .ok (.aload_n 0, 1) := by decide +kernel
theorem dX0_heaviestKnown_5 : decode cX0_heaviestKnown 5 = .ok (.aload_n 0, 1) := by decide +kernel
theorem dX0_heaviestKnown_6 : decode cX0_heaviestKnown 6 = .ok (.getfield 9, 3) := by decide +kernel
theorem dX0_heaviestKnown_9 : decode cX0_heaviestKnown 9 = .ok (.invokevirtual 50, 3) := by decide +kernel
theorem dX0_heaviestKnown_12 : decode cX0_heaviestKnown 12 = .ok (.isub, 1) := by decide +kernel
theorem dX0_heaviestKnown_13 : decode cX0_heaviestKnown 13 = .ok (.iconst 1, 1) := by decide +kernel
theorem dX0_heaviestKnown_14 : decode cX0_heaviestKnown 14 = .ok (.isub, 1) := by decide +kernel
theorem dX0_heaviestKnown_15 : decode cX0_heaviestKnown 15 = .ok (.istore_n 1, 1) := by decide +kernel
theorem dX0_heaviestKnown_16 : decode cX0_heaviestKnown 16 = .ok (.iload_n 1, 1) := by decide +kernel
theorem dX0_heaviestKnown_17 : decode cX0_heaviestKnown 17 = .ok (.ifCond .ge 7, 3) := by decide +kernel
theorem dX0_heaviestKnown_20 : decode cX0_heaviestKnown 20 = .ok (.iconst 0, 1) := by decide +kernel
theorem dX0_heaviestKnown_21 : decode cX0_heaviestKnown 21 = .ok (.goto 9, 3) := by decide +kernel
theorem dX0_heaviestKnown_24 : decode cX0_heaviestKnown 24 = .ok (.aload_n 0, 1) := by decide +kernel
theorem dX0_heaviestKnown_25 : decode cX0_heaviestKnown 25 = .ok (.getfield 9, 3) := by decide +kernel
theorem dX0_heaviestKnown_28 : decode cX0_heaviestKnown 28 = .ok (.iload_n 1, 1) := by decide +kernel
theorem dX0_heaviestKnown_29 : decode cX0_heaviestKnown 29 = .ok (.iaload, 1) := by decide +kernel
theorem dX0_heaviestKnown_30 : decode cX0_heaviestKnown 30 = .ok (.ireturn, 1) := by decide +kernel
set_option maxRecDepth 20000 in
theorem ggX1_init_X0_init : GoodIn wsX1_init wsX0_init := goodIn_r _ [9, 10, 2, 3, 11, 12, 13, 24, 25, 26, 27, 28, 29, 30, 31] (by decide +kernel) (by decide +kernel)
set_option maxRecDepth 20000 in
theorem gX1_init_X0_init_n15 : GoodIn wsX1_init (wsX0_init) := ggX1_init_X0_init
theorem dX1_init_0 : decode cX1_init 0 = .ok (.aload_n 0, 1) := by decide +kernel
theorem dX1_init_1 : decode cX1_init 1 = .ok (.invokespecial 1, 3) := by decide +kernel
theorem dX1_init_4 : decode cX1_init 4 = .ok (.aload_n 0, 1) := by decide +kernel
theorem dX1_init_5 : decode cX1_init 5 = .ok (.bipush 8, 2) := by decide +kernel
theorem dX1_init_7 : decode cX1_init 7 = .ok (.anewarray 9, 3) := by decide +kernel
theorem dX1_init_10 : decode cX1_init 10 = .ok (.putfield 11, 3) := by decide +kernel
theorem dX1_init_13 : decode cX1_init 13 = .ok (.iconst 0, 1) := by decide +kernel
theorem dX1_init_14 : decode cX1_init 14 = .ok (.istore_n 1, 1) := by decide +kernel
theorem dX1_init_15 : decode cX1_init 15 = .ok (.iload_n 1, 1) := by decide +kernel
theorem dX1_init_16 : decode cX1_init 16 = .ok (.bipush 8, 2) := by decide +kernel
theorem dX1_init_18 : decode cX1_init 18 = .ok (.if_icmp .ge 22, 3) := by decide +kernel
theorem dX1_init_21 : decode cX1_init 21 = .ok (.aload_n 0, 1) := by decide +kernel
theorem dX1_init_22 : decode cX1_init 22 = .ok (.getfield 11, 3) := by decide +kernel
theorem dX1_init_25 : decode cX1_init 25 = .ok (.iload_n 1, 1) := by decide +kernel
theorem dX1_init_26 : decode cX1_init 26 = .ok (.new 9, 3) := by decide +kernel
theorem dX1_init_29 : decode cX1_init 29 = .ok (.dup, 1) := by decide +kernel
theorem dX1_init_30 : decode cX1_init 30 = .ok (.invokespecial 15, 3) := by decide +kernel
theorem dX1_init_33 : decode cX1_init 33 = .ok (.aastore, 1) := by decide +kernel
theorem dX1_init_34 : decode cX1_init 34 = .ok (.iinc 1 1, 3) := by decide +kernel
theorem dX1_init_37 : decode cX1_init 37 = .ok (.goto (-22), 3) := by decide +kernel
theorem dX1_init_40 : decode cX1_init 40 = .ok (.return_, 1) := by decide +kernel
set_option maxRecDepth 20000 in
theorem ggX1_sort_X1_chuteAt : GoodIn wsX1_sort wsX1_chuteAt := goodIn_ca (goodIn_r _ [11, 12, 13, 14, 23, 24, 25, 26, 27, 28, 29, 30, 31, 32] (by decide +kernel) (by decide +kernel)) (goodIn_sub (fun _ h => List.mem_cons_of_mem _ (List.mem_append_right _ h)) (by decide +kernel))
set_option maxRecDepth 20000 in
theorem gX1_sort_X1_chuteAt : GoodIn wsX1_sort (wsV RX1 16 RX1 yX1_chuteAt wsX1_chuteAt) := goodIn_app (goodIn_of _ (by decide +kernel)) ggX1_sort_X1_chuteAt
theorem dX1_sort_0 : decode cX1_sort 0 = .ok (.aload_n 0, 1) := by decide +kernel
theorem dX1_sort_1 : decode cX1_sort 1 = .ok (.iload_n 1, 1) := by decide +kernel
theorem dX1_sort_2 : decode cX1_sort 2 = .ok (.invokevirtual 16, 3) := by decide +kernel
theorem dX1_sort_5 : decode cX1_sort 5 = .ok (.astore_n 3, 1) := by decide +kernel
theorem dX1_sort_6 : decode cX1_sort 6 = .ok (.iload_n 2, 1) := by decide +kernel
theorem dX1_sort_7 : decode cX1_sort 7 = .ok (.ifCond .lt 8, 3) := by decide +kernel
theorem dX1_sort_10 : decode cX1_sort 10 = .ok (.iload_n 2, 1) := by decide +kernel
theorem dX1_sort_11 : decode cX1_sort 11 = .ok (.iconst 4, 1) := by decide +kernel
theorem dX1_sort_12 : decode cX1_sort 12 = .ok (.if_icmp .le 13, 3) := by decide +kernel
theorem dX1_sort_15 : decode cX1_sort 15 = .ok (.new 20, 3) := by decide +kernel
theorem dX1_sort_18 : decode cX1_sort 18 = .ok (.dup, 1) := by decide +kernel
theorem dX1_sort_19 : decode cX1_sort 19 = .ok (.ldc 22, 2) := by decide +kernel
theorem dX1_sort_21 : decode cX1_sort 21 = .ok (.invokespecial 24, 3) := by decide +kernel
theorem dX1_sort_24 : decode cX1_sort 24 = .ok (.athrow, 1) := by decide +kernel
theorem dX1_sort_25 : decode cX1_sort 25 = .ok (.aload_n 3, 1) := by decide +kernel
theorem dX1_sort_26 : decode cX1_sort 26 = .ok (.getfield 27, 3) := by decide +kernel
theorem dX1_sort_29 : decode cX1_sort 29 = .ok (.ifCond .le 13, 3) := by decide +kernel
theorem dX1_sort_32 : decode cX1_sort 32 = .ok (.new 31, 3) := by decide +kernel
theorem dX1_sort_35 : decode cX1_sort 35 = .ok (.dup, 1) := by decide +kernel
theorem dX1_sort_36 : decode cX1_sort 36 = .ok (.ldc 33, 2) := by decide +kernel
theorem dX1_sort_38 : decode cX1_sort 38 = .ok (.invokespecial 35, 3) := by decide +kernel
theorem dX1_sort_41 : decode cX1_sort 41 = .ok (.athrow, 1) := by decide +kernel
theorem dX1_sort_42 : decode cX1_sort 42 = .ok (.aload_n 3, 1) := by decide +kernel
theorem dX1_sort_43 : decode cX1_sort 43 = .ok (.getfield 36, 3) := by decide +kernel
theorem dX1_sort_46 : decode cX1_sort 46 = .ok (.istore 4, 2) := by decide +kernel
theorem dX1_sort_48 : decode cX1_sort 48 = .ok (.aload_n 3, 1) := by decide +kernel
theorem dX1_sort_49 : decode cX1_sort 49 = .ok (.iload_n 2, 1) := by decide +kernel
theorem dX1_sort_50 : decode cX1_sort 50 = .ok (.putfield 36, 3) := by decide +kernel
theorem dX1_sort_53 : decode cX1_sort 53 = .ok (.iload 4, 2) := by decide +kernel
theorem dX1_sort_55 : decode cX1_sort 55 = .ok (.ireturn, 1) := by decide +kernel
set_option maxRecDepth 20000 in
theorem ggX1_limits_X1_chuteAt : GoodIn wsX1_limits wsX1_chuteAt := goodIn_ca (goodIn_r _ [10, 11, 12, 13, 40, 41, 42, 43, 44, 45, 46, 47, 48, 49] (by decide +kernel) (by decide +kernel)) (goodIn_sub (fun _ h => List.mem_cons_of_mem _ (List.mem_append_left _ (List.mem_append_right _ h))) (by decide +kernel))
set_option maxRecDepth 20000 in
theorem gX1_limits_X1_chuteAt : GoodIn wsX1_limits (wsV RX1 16 RX1 yX1_chuteAt wsX1_chuteAt) := goodIn_app (goodIn_of _ (by decide +kernel)) ggX1_limits_X1_chuteAt
set_option maxRecDepth 20000 in
theorem ggX1_limits_X1_requireWeight : GoodIn wsX1_limits wsX1_requireWeight := goodIn_ca (goodIn_r _ [16, 17, 18, 19] (by decide +kernel) (by decide +kernel)) (goodIn_sub (fun _ h => List.mem_cons_of_mem _ (List.mem_append_right _ h)) (by decide +kernel))
set_option maxRecDepth 20000 in
theorem gX1_limits_X1_requireWeight : GoodIn wsX1_limits (va_wsS RX1 39 yX1_requireWeight wsX1_requireWeight) := goodIn_app (goodIn_of _ (by decide +kernel)) ggX1_limits_X1_requireWeight
set_option maxRecDepth 20000 in
theorem ggX1_limits_X1_requireGirth : GoodIn wsX1_limits wsX1_requireGirth := goodIn_ca (goodIn_r _ [22, 17, 18] (by decide +kernel) (by decide +kernel)) (goodIn_sub (fun _ h => List.mem_cons_of_mem _ (List.mem_append_right _ h)) (by decide +kernel))
set_option maxRecDepth 20000 in
theorem gX1_limits_X1_requireGirth : GoodIn wsX1_limits (va_wsS RX1 43 yX1_requireGirth wsX1_requireGirth) := goodIn_app (goodIn_of _ (by decide +kernel)) ggX1_limits_X1_requireGirth
set_option maxRecDepth 20000 in
theorem ggX1_limits_X1_holds : GoodIn wsX1_limits wsX1_holds := goodIn_r _ [25, 26, 27, 9, 28] (by decide +kernel) (by decide +kernel)
set_option maxRecDepth 20000 in
theorem gX1_limits_X1_holds : GoodIn wsX1_limits (va_wsS RX1 46 yX1_holds wsX1_holds) := goodIn_app (goodIn_of _ (by decide +kernel)) ggX1_limits_X1_holds
set_option maxRecDepth 20000 in
theorem ggX1_limits_X1_oneIf : GoodIn wsX1_limits wsX1_oneIf := goodIn_r _ [31] (by decide +kernel) (by decide +kernel)
set_option maxRecDepth 20000 in
theorem gX1_limits_X1_oneIf : GoodIn wsX1_limits (va_wsS RX1 61 yX1_oneIf wsX1_oneIf) := goodIn_app (goodIn_of _ (by decide +kernel)) ggX1_limits_X1_oneIf
theorem dX1_limits_0 : decode cX1_limits 0 = .ok (.aload_n 0, 1) := by decide +kernel
theorem dX1_limits_1 : decode cX1_limits 1 = .ok (.iload_n 1, 1) := by decide +kernel
theorem dX1_limits_2 : decode cX1_limits 2 = .ok (.invokevirtual 16, 3) := by decide +kernel
theorem dX1_limits_5 : decode cX1_limits 5 = .ok (.astore 5, 2) := by decide +kernel
theorem dX1_limits_7 : decode cX1_limits 7 = .ok (.iload_n 2, 1) := by decide +kernel
theorem dX1_limits_8 : decode cX1_limits 8 = .ok (.invokestatic 39, 3) := by decide +kernel
theorem dX1_limits_11 : decode cX1_limits 11 = .ok (.iload_n 3, 1) := by decide +kernel
theorem dX1_limits_12 : decode cX1_limits 12 = .ok (.invokestatic 39, 3) := by decide +kernel
theorem dX1_limits_15 : decode cX1_limits 15 = .ok (.iload 4, 2) := by decide +kernel
theorem dX1_limits_17 : decode cX1_limits 17 = .ok (.invokestatic 43, 3) := by decide +kernel
theorem dX1_limits_20 : decode cX1_limits 20 = .ok (.iload_n 3, 1) := by decide +kernel
theorem dX1_limits_21 : decode cX1_limits 21 = .ok (.iconst 1, 1) := by decide +kernel
theorem dX1_limits_22 : decode cX1_limits 22 = .ok (.iload_n 2, 1) := by decide +kernel
theorem dX1_limits_23 : decode cX1_limits 23 = .ok (.invokestatic 46, 3) := by decide +kernel
theorem dX1_limits_26 : decode cX1_limits 26 = .ok (.ifCond .eq 13, 3) := by decide +kernel
theorem dX1_limits_29 : decode cX1_limits 29 = .ok (.new 31, 3) := by decide +kernel
theorem dX1_limits_32 : decode cX1_limits 32 = .ok (.dup, 1) := by decide +kernel
theorem dX1_limits_33 : decode cX1_limits 33 = .ok (.ldc 50, 2) := by decide +kernel
theorem dX1_limits_35 : decode cX1_limits 35 = .ok (.invokespecial 35, 3) := by decide +kernel
theorem dX1_limits_38 : decode cX1_limits 38 = .ok (.athrow, 1) := by decide +kernel
theorem dX1_limits_39 : decode cX1_limits 39 = .ok (.aload 5, 2) := by decide +kernel
theorem dX1_limits_41 : decode cX1_limits 41 = .ok (.iload_n 2, 1) := by decide +kernel
theorem dX1_limits_42 : decode cX1_limits 42 = .ok (.putfield 52, 3) := by decide +kernel
theorem dX1_limits_45 : decode cX1_limits 45 = .ok (.aload 5, 2) := by decide +kernel
theorem dX1_limits_47 : decode cX1_limits 47 = .ok (.iload_n 3, 1) := by decide +kernel
theorem dX1_limits_48 : decode cX1_limits 48 = .ok (.putfield 55, 3) := by decide +kernel
theorem dX1_limits_51 : decode cX1_limits 51 = .ok (.aload 5, 2) := by decide +kernel
theorem dX1_limits_53 : decode cX1_limits 53 = .ok (.iload 4, 2) := by decide +kernel
theorem dX1_limits_55 : decode cX1_limits 55 = .ok (.putfield 58, 3) := by decide +kernel
theorem dX1_limits_58 : decode cX1_limits 58 = .ok (.iload_n 2, 1) := by decide +kernel
theorem dX1_limits_59 : decode cX1_limits 59 = .ok (.ifCond .eq 7, 3) := by decide +kernel
theorem dX1_limits_62 : decode cX1_limits 62 = .ok (.iconst 1, 1) := by decide +kernel
theorem dX1_limits_63 : decode cX1_limits 63 = .ok (.goto 4, 3) := by decide +kernel
theorem dX1_limits_66 : decode cX1_limits 66 = .ok (.iconst 0, 1) := by decide +kernel
theorem dX1_limits_67 : decode cX1_limits 67 = .ok (.invokestatic 61, 3) := by decide +kernel
theorem dX1_limits_70 : decode cX1_limits 70 = .ok (.iload_n 3, 1) := by decide +kernel
theorem dX1_limits_71 : decode cX1_limits 71 = .ok (.ifCond .eq 7, 3) := by decide +kernel
theorem dX1_limits_74 : decode cX1_limits 74 = .ok (.iconst 1, 1) := by decide +kernel
theorem dX1_limits_75 : decode cX1_limits 75 = .ok (.goto 4, 3) := by decide +kernel
theorem dX1_limits_78 : decode cX1_limits 78 = .ok (.iconst 0, 1) := by decide +kernel
theorem dX1_limits_79 : decode cX1_limits 79 = .ok (.invokestatic 61, 3) := by decide +kernel
theorem dX1_limits_82 : decode cX1_limits 82 = .ok (.iadd, 1) := by decide +kernel
theorem dX1_limits_83 : decode cX1_limits 83 = .ok (.iload 4, 2) := by decide +kernel
theorem dX1_limits_85 : decode cX1_limits 85 = .ok (.ifCond .eq 7, 3) := by decide +kernel
theorem dX1_limits_88 : decode cX1_limits 88 = .ok (.iconst 1, 1) := by decide +kernel
theorem dX1_limits_89 : decode cX1_limits 89 = .ok (.goto 4, 3) := by decide +kernel
theorem dX1_limits_92 : decode cX1_limits 92 = .ok (.iconst 0, 1) := by decide +kernel
theorem dX1_limits_93 : decode cX1_limits 93 = .ok (.invokestatic 61, 3) := by decide +kernel
theorem dX1_limits_96 : decode cX1_limits 96 = .ok (.iadd, 1) := by decide +kernel
theorem dX1_limits_97 : decode cX1_limits 97 = .ok (.ireturn, 1) := by decide +kernel
set_option maxRecDepth 20000 in
theorem ggX1_shut_X1_chuteAt : GoodIn wsX1_shut wsX1_chuteAt := goodIn_ca (goodIn_r _ [6, 7, 8, 9, 18, 19, 20, 21, 22, 23, 24, 25, 26, 27] (by decide +kernel) (by decide +kernel)) (goodIn_sub (fun _ h => List.mem_cons_of_mem _ (List.mem_append_right _ h)) (by decide +kernel))
set_option maxRecDepth 20000 in
theorem gX1_shut_X1_chuteAt : GoodIn wsX1_shut (wsV RX1 16 RX1 yX1_chuteAt wsX1_chuteAt) := goodIn_app (goodIn_of _ (by decide +kernel)) ggX1_shut_X1_chuteAt
theorem dX1_shut_0 : decode cX1_shut 0 = .ok (.aload_n 0, 1) := by decide +kernel
theorem dX1_shut_1 : decode cX1_shut 1 = .ok (.iload_n 1, 1) := by decide +kernel
theorem dX1_shut_2 : decode cX1_shut 2 = .ok (.invokevirtual 16, 3) := by decide +kernel
theorem dX1_shut_5 : decode cX1_shut 5 = .ok (.astore_n 3, 1) := by decide +kernel
theorem dX1_shut_6 : decode cX1_shut 6 = .ok (.aload_n 3, 1) := by decide +kernel
theorem dX1_shut_7 : decode cX1_shut 7 = .ok (.getfield 65, 3) := by decide +kernel
theorem dX1_shut_10 : decode cX1_shut 10 = .ok (.istore 4, 2) := by decide +kernel
theorem dX1_shut_12 : decode cX1_shut 12 = .ok (.aload_n 3, 1) := by decide +kernel
theorem dX1_shut_13 : decode cX1_shut 13 = .ok (.iload_n 2, 1) := by decide +kernel
theorem dX1_shut_14 : decode cX1_shut 14 = .ok (.putfield 65, 3) := by decide +kernel
theorem dX1_shut_17 : decode cX1_shut 17 = .ok (.iload 4, 2) := by decide +kernel
theorem dX1_shut_19 : decode cX1_shut 19 = .ok (.ireturn, 1) := by decide +kernel
set_option maxRecDepth 20000 in
theorem ggX1_send_X1_requireWeight : GoodIn wsX1_send wsX1_requireWeight := goodIn_ca (goodIn_r _ [6, 7, 8, 9] (by decide +kernel) (by decide +kernel)) (goodIn_sub (fun _ h => List.mem_cons_of_mem _ (List.mem_append_right _ h)) (by decide +kernel))
set_option maxRecDepth 20000 in
theorem gX1_send_X1_requireWeight : GoodIn wsX1_send (va_wsS RX1 39 yX1_requireWeight wsX1_requireWeight) := goodIn_app (goodIn_of _ (by decide +kernel)) ggX1_send_X1_requireWeight
set_option maxRecDepth 20000 in
theorem ggX1_send_X1_requireGirth : GoodIn wsX1_send wsX1_requireGirth := goodIn_ca (goodIn_r _ [12, 7, 8] (by decide +kernel) (by decide +kernel)) (goodIn_sub (fun _ h => List.mem_cons_of_mem _ (List.mem_append_right _ h)) (by decide +kernel))
set_option maxRecDepth 20000 in
theorem gX1_send_X1_requireGirth : GoodIn wsX1_send (va_wsS RX1 43 yX1_requireGirth wsX1_requireGirth) := goodIn_app (goodIn_of _ (by decide +kernel)) ggX1_send_X1_requireGirth
set_option maxRecDepth 20000 in
theorem ggX1_send_X1_readGauges : GoodIn wsX1_send wsX1_readGauges := goodIn_r _ [16, 17, 18, 19, 20, 21, 22, 23, 24, 5, 25, 26, 27, 28, 56, 57, 58, 59, 60, 61, 62, 63, 64, 65] (by decide +kernel) (by decide +kernel)
set_option maxRecDepth 20000 in
theorem gX1_send_X1_readGauges : GoodIn wsX1_send (wsV RX1 69 RX1 yX1_readGauges wsX1_readGauges) := goodIn_app (goodIn_of _ (by decide +kernel)) ggX1_send_X1_readGauges
set_option maxRecDepth 20000 in
theorem ggX1_send_X0_letIn : GoodIn wsX1_send wsX0_letIn := goodIn_r _ [33, 34, 35, 36, 37, 38, 39, 32, 40, 41, 42, 43, 44, 24, 5, 25, 26, 27, 28, 45, 46, 47, 48, 66, 67, 68, 69, 70, 71, 72, 73] (by decide +kernel) (by decide +kernel)
set_option maxRecDepth 20000 in
theorem gX1_send_X0_letIn : GoodIn wsX1_send (wsV RX1 73 RX0 yX0_letIn wsX0_letIn) := goodIn_app (goodIn_of _ (by decide +kernel)) ggX1_send_X0_letIn
set_option maxRecDepth 20000 in
theorem ggX1_send_X1_putAside : GoodIn wsX1_send wsX1_putAside := goodIn_r _ [52, 53, 54, 55, 56, 57, 58, 59, 60, 61, 62, 63, 64, 65] (by decide +kernel) (by decide +kernel)
set_option maxRecDepth 20000 in
theorem gX1_send_X1_putAside : GoodIn wsX1_send (wsV RX1 77 RX1 yX1_putAside wsX1_putAside) := goodIn_app (goodIn_of _ (by decide +kernel)) ggX1_send_X1_putAside
theorem dX1_send_0 : decode cX1_send 0 = .ok (.iload_n 1, 1) := by decide +kernel
theorem dX1_send_1 : decode cX1_send 1 = .ok (.invokestatic 39, 3) := by decide +kernel
theorem dX1_send_4 : decode cX1_send 4 = .ok (.iload_n 2, 1) := by decide +kernel
theorem dX1_send_5 : decode cX1_send 5 = .ok (.invokestatic 43, 3) := by decide +kernel
theorem dX1_send_8 : decode cX1_send 8 = .ok (.aload_n 0, 1) := by decide +kernel
theorem dX1_send_9 : decode cX1_send 9 = .ok (.iload_n 1, 1) := by decide +kernel
theorem dX1_send_10 : decode cX1_send 10 = .ok (.iload_n 2, 1) := by decide +kernel
theorem dX1_send_11 : decode cX1_send 11 = .ok (.invokevirtual 69, 3) := by decide +kernel
theorem dX1_send_14 : decode cX1_send 14 = .ok (.iconst 0, 1) := by decide +kernel
theorem dX1_send_15 : decode cX1_send 15 = .ok (.istore_n 3, 1) := by decide +kernel
theorem dX1_send_16 : decode cX1_send 16 = .ok (.iload_n 3, 1) := by decide +kernel
theorem dX1_send_17 : decode cX1_send 17 = .ok (.bipush 8, 2) := by decide +kernel
theorem dX1_send_19 : decode cX1_send 19 = .ok (.if_icmp .ge 37, 3) := by decide +kernel
theorem dX1_send_22 : decode cX1_send 22 = .ok (.aload_n 0, 1) := by decide +kernel
theorem dX1_send_23 : decode cX1_send 23 = .ok (.getfield 11, 3) := by decide +kernel
theorem dX1_send_26 : decode cX1_send 26 = .ok (.iload_n 3, 1) := by decide +kernel
theorem dX1_send_27 : decode cX1_send 27 = .ok (.aaload, 1) := by decide +kernel
theorem dX1_send_28 : decode cX1_send 28 = .ok (.getfield 65, 3) := by decide +kernel
theorem dX1_send_31 : decode cX1_send 31 = .ok (.ifCond .ne 19, 3) := by decide +kernel
theorem dX1_send_34 : decode cX1_send 34 = .ok (.aload_n 0, 1) := by decide +kernel
theorem dX1_send_35 : decode cX1_send 35 = .ok (.getfield 11, 3) := by decide +kernel
theorem dX1_send_38 : decode cX1_send 38 = .ok (.iload_n 3, 1) := by decide +kernel
theorem dX1_send_39 : decode cX1_send 39 = .ok (.aaload, 1) := by decide +kernel
theorem dX1_send_40 : decode cX1_send 40 = .ok (.iload_n 1, 1) := by decide +kernel
theorem dX1_send_41 : decode cX1_send 41 = .ok (.iload_n 2, 1) := by decide +kernel
theorem dX1_send_42 : decode cX1_send 42 = .ok (.invokevirtual 73, 3) := by decide +kernel
theorem dX1_send_45 : decode cX1_send 45 = .ok (.ifCond .eq 5, 3) := by decide +kernel
theorem dX1_send_48 : decode cX1_send 48 = .ok (.iload_n 3, 1) := by decide +kernel
theorem dX1_send_49 : decode cX1_send 49 = .ok (.ireturn, 1) := by decide +kernel
theorem dX1_send_50 : decode cX1_send 50 = .ok (.iinc 3 1, 3) := by decide +kernel
theorem dX1_send_53 : decode cX1_send 53 = .ok (.goto (-37), 3) := by decide +kernel
theorem dX1_send_56 : decode cX1_send 56 = .ok (.aload_n 0, 1) := by decide +kernel
theorem dX1_send_57 : decode cX1_send 57 = .ok (.iload_n 1, 1) := by decide +kernel
theorem dX1_send_58 : decode cX1_send 58 = .ok (.iload_n 2, 1) := by decide +kernel
theorem dX1_send_59 : decode cX1_send 59 = .ok (.invokevirtual 77, 3) := by decide +kernel
theorem dX1_send_62 : decode cX1_send 62 = .ok (.iconst (-1), 1) := by decide +kernel
theorem dX1_send_63 : decode cX1_send 63 = .ok (.ireturn, 1) := by decide +kernel
set_option maxRecDepth 20000 in
theorem ggX1_fits_X1_requireWeight : GoodIn wsX1_fits wsX1_requireWeight := goodIn_ca (goodIn_r _ [5, 6, 7, 8] (by decide +kernel) (by decide +kernel)) (goodIn_sub (fun _ h => List.mem_cons_of_mem _ (List.mem_append_right _ h)) (by decide +kernel))
set_option maxRecDepth 20000 in
theorem gX1_fits_X1_requireWeight : GoodIn wsX1_fits (va_wsS RX1 39 yX1_requireWeight wsX1_requireWeight) := goodIn_app (goodIn_of _ (by decide +kernel)) ggX1_fits_X1_requireWeight
set_option maxRecDepth 20000 in
theorem ggX1_fits_X1_requireGirth : GoodIn wsX1_fits wsX1_requireGirth := goodIn_ca (goodIn_r _ [11, 6, 7] (by decide +kernel) (by decide +kernel)) (goodIn_sub (fun _ h => List.mem_cons_of_mem _ (List.mem_append_right _ h)) (by decide +kernel))
set_option maxRecDepth 20000 in
theorem gX1_fits_X1_requireGirth : GoodIn wsX1_fits (va_wsS RX1 43 yX1_requireGirth wsX1_requireGirth) := goodIn_app (goodIn_of _ (by decide +kernel)) ggX1_fits_X1_requireGirth
set_option maxRecDepth 20000 in
theorem ggX1_fits_X0_suits : GoodIn wsX1_fits wsX0_suits := goodIn_r _ [16, 17, 18, 19, 20, 21, 4, 22, 23, 24, 25, 36, 37, 38, 39, 40, 41, 42, 43] (by decide +kernel) (by decide +kernel)
set_option maxRecDepth 20000 in
theorem gX1_fits_X0_suits : GoodIn wsX1_fits (wsV RX1 80 RX0 yX0_suits wsX0_suits) := goodIn_app (goodIn_of _ (by decide +kernel)) ggX1_fits_X0_suits
theorem dX1_fits_0 : decode cX1_fits 0 = .ok (.iload_n 1, 1) := by decide +kernel
theorem dX1_fits_1 : decode cX1_fits 1 = .ok (.invokestatic 39, 3) := by decide +kernel
theorem dX1_fits_4 : decode cX1_fits 4 = .ok (.iload_n 2, 1) := by decide +kernel
theorem dX1_fits_5 : decode cX1_fits 5 = .ok (.invokestatic 43, 3) := by decide +kernel
theorem dX1_fits_8 : decode cX1_fits 8 = .ok (.iconst 0, 1) := by decide +kernel
theorem dX1_fits_9 : decode cX1_fits 9 = .ok (.istore_n 3, 1) := by decide +kernel
theorem dX1_fits_10 : decode cX1_fits 10 = .ok (.iconst 0, 1) := by decide +kernel
theorem dX1_fits_11 : decode cX1_fits 11 = .ok (.istore 4, 2) := by decide +kernel
theorem dX1_fits_13 : decode cX1_fits 13 = .ok (.iload 4, 2) := by decide +kernel
theorem dX1_fits_15 : decode cX1_fits 15 = .ok (.bipush 8, 2) := by decide +kernel
theorem dX1_fits_17 : decode cX1_fits 17 = .ok (.if_icmp .ge 31, 3) := by decide +kernel
theorem dX1_fits_20 : decode cX1_fits 20 = .ok (.aload_n 0, 1) := by decide +kernel
theorem dX1_fits_21 : decode cX1_fits 21 = .ok (.getfield 11, 3) := by decide +kernel
theorem dX1_fits_24 : decode cX1_fits 24 = .ok (.iload 4, 2) := by decide +kernel
theorem dX1_fits_26 : decode cX1_fits 26 = .ok (.aaload, 1) := by decide +kernel
theorem dX1_fits_27 : decode cX1_fits 27 = .ok (.iload_n 1, 1) := by decide +kernel
theorem dX1_fits_28 : decode cX1_fits 28 = .ok (.iload_n 2, 1) := by decide +kernel
theorem dX1_fits_29 : decode cX1_fits 29 = .ok (.invokevirtual 80, 3) := by decide +kernel
theorem dX1_fits_32 : decode cX1_fits 32 = .ok (.ifCond .eq 10, 3) := by decide +kernel
theorem dX1_fits_35 : decode cX1_fits 35 = .ok (.iload_n 3, 1) := by decide +kernel
theorem dX1_fits_36 : decode cX1_fits 36 = .ok (.iconst 1, 1) := by decide +kernel
theorem dX1_fits_37 : decode cX1_fits 37 = .ok (.iload 4, 2) := by decide +kernel
theorem dX1_fits_39 : decode cX1_fits 39 = .ok (.ishl, 1) := by decide +kernel
theorem dX1_fits_40 : decode cX1_fits 40 = .ok (.ior, 1) := by decide +kernel
theorem dX1_fits_41 : decode cX1_fits 41 = .ok (.istore_n 3, 1) := by decide +kernel
theorem dX1_fits_42 : decode cX1_fits 42 = .ok (.iinc 4 1, 3) := by decide +kernel
theorem dX1_fits_45 : decode cX1_fits 45 = .ok (.goto (-32), 3) := by decide +kernel
theorem dX1_fits_48 : decode cX1_fits 48 = .ok (.iload_n 3, 1) := by decide +kernel
theorem dX1_fits_49 : decode cX1_fits 49 = .ok (.ireturn, 1) := by decide +kernel
set_option maxRecDepth 20000 in
theorem ggX1_signs_X1_chuteAt : GoodIn wsX1_signs wsX1_chuteAt := goodIn_ca (goodIn_r _ [10, 11, 12, 13, 32, 33, 34, 35, 36, 37, 38, 39, 40, 41] (by decide +kernel) (by decide +kernel)) (goodIn_sub (fun _ h => List.mem_cons_of_mem _ (List.mem_append_right _ h)) (by decide +kernel))
set_option maxRecDepth 20000 in
theorem gX1_signs_X1_chuteAt : GoodIn wsX1_signs (wsV RX1 16 RX1 yX1_chuteAt wsX1_chuteAt) := goodIn_app (goodIn_of _ (by decide +kernel)) ggX1_signs_X1_chuteAt
set_option maxRecDepth 20000 in
theorem ggX1_signs_X1_requireWeight : GoodIn wsX1_signs wsX1_requireWeight := goodIn_ca (goodIn_r _ [16, 1, 2, 17] (by decide +kernel) (by decide +kernel)) (goodIn_sub (fun _ h => List.mem_cons_of_mem _ (List.mem_append_left _ (List.mem_append_right _ h))) (by decide +kernel))
set_option maxRecDepth 20000 in
theorem gX1_signs_X1_requireWeight : GoodIn wsX1_signs (va_wsS RX1 39 yX1_requireWeight wsX1_requireWeight) := goodIn_app (goodIn_of _ (by decide +kernel)) ggX1_signs_X1_requireWeight
set_option maxRecDepth 20000 in
theorem ggX1_signs_X1_signsBetween : GoodIn wsX1_signs wsX1_signsBetween := goodIn_r _ [20] (by decide +kernel) (by decide +kernel)
set_option maxRecDepth 20000 in
theorem gX1_signs_X1_signsBetween : GoodIn wsX1_signs (va_wsS RX1 83 yX1_signsBetween wsX1_signsBetween) := goodIn_app (goodIn_of _ (by decide +kernel)) ggX1_signs_X1_signsBetween
set_option maxRecDepth 20000 in
theorem ggX1_signs_X1_requireGirth : GoodIn wsX1_signs wsX1_requireGirth := goodIn_ca (goodIn_r _ [23, 1, 2] (by decide +kernel) (by decide +kernel)) (goodIn_sub (fun _ h => List.mem_cons_of_mem _ (List.mem_append_left _ (List.mem_append_right _ h))) (by decide +kernel))
set_option maxRecDepth 20000 in
theorem gX1_signs_X1_requireGirth : GoodIn wsX1_signs (va_wsS RX1 43 yX1_requireGirth wsX1_requireGirth) := goodIn_app (goodIn_of _ (by decide +kernel)) ggX1_signs_X1_requireGirth
theorem dX1_signs_0 : decode cX1_signs 0 = .ok (.aload_n 0, 1) := by decide +kernel
theorem dX1_signs_1 : decode cX1_signs 1 = .ok (.iload_n 1, 1) := by decide +kernel
theorem dX1_signs_2 : decode cX1_signs 2 = .ok (.invokevirtual 16, 3) := by decide +kernel
theorem dX1_signs_5 : decode cX1_signs 5 = .ok (.astore 4, 2) := by decide +kernel
theorem dX1_signs_7 : decode cX1_signs 7 = .ok (.iload_n 2, 1) := by decide +kernel
theorem dX1_signs_8 : decode cX1_signs 8 = .ok (.tableswitch 70 0 2 #[28, 42, 56], 28) := by decide +kernel
theorem dX1_signs_36 : decode cX1_signs 36 = .ok (.iload_n 3, 1) := by decide +kernel
theorem dX1_signs_37 : decode cX1_signs 37 = .ok (.invokestatic 39, 3) := by decide +kernel
theorem dX1_signs_40 : decode cX1_signs 40 = .ok (.iload_n 3, 1) := by decide +kernel
theorem dX1_signs_41 : decode cX1_signs 41 = .ok (.aload 4, 2) := by decide +kernel
theorem dX1_signs_43 : decode cX1_signs 43 = .ok (.getfield 52, 3) := by decide +kernel
theorem dX1_signs_46 : decode cX1_signs 46 = .ok (.invokestatic 83, 3) := by decide +kernel
theorem dX1_signs_49 : decode cX1_signs 49 = .ok (.ireturn, 1) := by decide +kernel
theorem dX1_signs_50 : decode cX1_signs 50 = .ok (.iload_n 3, 1) := by decide +kernel
theorem dX1_signs_51 : decode cX1_signs 51 = .ok (.invokestatic 39, 3) := by decide +kernel
theorem dX1_signs_54 : decode cX1_signs 54 = .ok (.iload_n 3, 1) := by decide +kernel
theorem dX1_signs_55 : decode cX1_signs 55 = .ok (.aload 4, 2) := by decide +kernel
theorem dX1_signs_57 : decode cX1_signs 57 = .ok (.getfield 55, 3) := by decide +kernel
theorem dX1_signs_60 : decode cX1_signs 60 = .ok (.invokestatic 83, 3) := by decide +kernel
theorem dX1_signs_63 : decode cX1_signs 63 = .ok (.ireturn, 1) := by decide +kernel
theorem dX1_signs_64 : decode cX1_signs 64 = .ok (.iload_n 3, 1) := by decide +kernel
theorem dX1_signs_65 : decode cX1_signs 65 = .ok (.invokestatic 43, 3) := by decide +kernel
theorem dX1_signs_68 : decode cX1_signs 68 = .ok (.iload_n 3, 1) := by decide +kernel
theorem dX1_signs_69 : decode cX1_signs 69 = .ok (.aload 4, 2) := by decide +kernel
theorem dX1_signs_71 : decode cX1_signs 71 = .ok (.getfield 58, 3) := by decide +kernel
theorem dX1_signs_74 : decode cX1_signs 74 = .ok (.invokestatic 83, 3) := by decide +kernel
theorem dX1_signs_77 : decode cX1_signs 77 = .ok (.ireturn, 1) := by decide +kernel
theorem dX1_signs_78 : decode cX1_signs 78 = .ok (.new 20, 3) := by decide +kernel
theorem dX1_signs_81 : decode cX1_signs 81 = .ok (.dup, 1) := by decide +kernel
theorem dX1_signs_82 : decode cX1_signs 82 = .ok (.ldc 87, 2) := by decide +kernel
theorem dX1_signs_84 : decode cX1_signs 84 = .ok (.invokespecial 24, 3) := by decide +kernel
theorem dX1_signs_87 : decode cX1_signs 87 = .ok (.athrow, 1) := by decide +kernel
set_option maxRecDepth 20000 in
theorem ggX1_chute_X1_chuteAt : GoodIn wsX1_chute wsX1_chuteAt := goodIn_ca (goodIn_r _ [15, 16, 17, 18, 36, 37, 38, 39, 40, 41, 42, 43, 44, 45] (by decide +kernel) (by decide +kernel)) (goodIn_sub (fun _ h => List.mem_cons_of_mem _ (List.mem_append_right _ h)) (by decide +kernel))
set_option maxRecDepth 20000 in
theorem gX1_chute_X1_chuteAt : GoodIn wsX1_chute (wsV RX1 16 RX1 yX1_chuteAt wsX1_chuteAt) := goodIn_app (goodIn_of _ (by decide +kernel)) ggX1_chute_X1_chuteAt
set_option maxRecDepth 20000 in
theorem ggX1_chute_X1_oneIf : GoodIn wsX1_chute wsX1_oneIf := goodIn_r _ [21] (by decide +kernel) (by decide +kernel)
set_option maxRecDepth 20000 in
theorem gX1_chute_X1_oneIf : GoodIn wsX1_chute (va_wsS RX1 61 yX1_oneIf wsX1_oneIf) := goodIn_app (goodIn_of _ (by decide +kernel)) ggX1_chute_X1_oneIf
set_option maxRecDepth 20000 in
theorem ggX1_chute_X0_unknownIn : GoodIn wsX1_chute wsX0_unknownIn := goodIn_r _ [26, 27, 20, 14, 21, 28, 29, 30, 31, 32, 33, 34, 35] (by decide +kernel) (by decide +kernel)
set_option maxRecDepth 20000 in
theorem gX1_chute_X0_unknownIn : GoodIn wsX1_chute (wsV RX1 93 RX0 yX0_unknownIn wsX0_unknownIn) := goodIn_app (goodIn_of _ (by decide +kernel)) ggX1_chute_X0_unknownIn
theorem dX1_chute_0 : decode cX1_chute 0 = .ok (.aload_n 0, 1) := by decide +kernel
theorem dX1_chute_1 : decode cX1_chute 1 = .ok (.iload_n 1, 1) := by decide +kernel
theorem dX1_chute_2 : decode cX1_chute 2 = .ok (.invokevirtual 16, 3) := by decide +kernel
theorem dX1_chute_5 : decode cX1_chute 5 = .ok (.astore_n 3, 1) := by decide +kernel
theorem dX1_chute_6 : decode cX1_chute 6 = .ok (.iload_n 2, 1) := by decide +kernel
theorem dX1_chute_7 : decode cX1_chute 7 = .ok (.tableswitch 96 0 7 #[45, 50, 55, 60, 65, 73, 78, 87], 45) := by decide +kernel
theorem dX1_chute_52 : decode cX1_chute 52 = .ok (.aload_n 3, 1) := by decide +kernel
theorem dX1_chute_53 : decode cX1_chute 53 = .ok (.getfield 36, 3) := by decide +kernel
theorem dX1_chute_56 : decode cX1_chute 56 = .ok (.ireturn, 1) := by decide +kernel
theorem dX1_chute_57 : decode cX1_chute 57 = .ok (.aload_n 3, 1) := by decide +kernel
theorem dX1_chute_58 : decode cX1_chute 58 = .ok (.getfield 52, 3) := by decide +kernel
theorem dX1_chute_61 : decode cX1_chute 61 = .ok (.ireturn, 1) := by decide +kernel
theorem dX1_chute_62 : decode cX1_chute 62 = .ok (.aload_n 3, 1) := by decide +kernel
theorem dX1_chute_63 : decode cX1_chute 63 = .ok (.getfield 55, 3) := by decide +kernel
theorem dX1_chute_66 : decode cX1_chute 66 = .ok (.ireturn, 1) := by decide +kernel
theorem dX1_chute_67 : decode cX1_chute 67 = .ok (.aload_n 3, 1) := by decide +kernel
theorem dX1_chute_68 : decode cX1_chute 68 = .ok (.getfield 58, 3) := by decide +kernel
theorem dX1_chute_71 : decode cX1_chute 71 = .ok (.ireturn, 1) := by decide +kernel
theorem dX1_chute_72 : decode cX1_chute 72 = .ok (.aload_n 3, 1) := by decide +kernel
theorem dX1_chute_73 : decode cX1_chute 73 = .ok (.getfield 65, 3) := by decide +kernel
theorem dX1_chute_76 : decode cX1_chute 76 = .ok (.invokestatic 61, 3) := by decide +kernel
theorem dX1_chute_79 : decode cX1_chute 79 = .ok (.ireturn, 1) := by decide +kernel
theorem dX1_chute_80 : decode cX1_chute 80 = .ok (.aload_n 3, 1) := by decide +kernel
theorem dX1_chute_81 : decode cX1_chute 81 = .ok (.getfield 27, 3) := by decide +kernel
theorem dX1_chute_84 : decode cX1_chute 84 = .ok (.ireturn, 1) := by decide +kernel
theorem dX1_chute_85 : decode cX1_chute 85 = .ok (.aload_n 3, 1) := by decide +kernel
theorem dX1_chute_86 : decode cX1_chute 86 = .ok (.aload_n 3, 1) := by decide +kernel
theorem dX1_chute_87 : decode cX1_chute 87 = .ok (.getfield 89, 3) := by decide +kernel
theorem dX1_chute_90 : decode cX1_chute 90 = .ok (.invokevirtual 93, 3) := by decide +kernel
theorem dX1_chute_93 : decode cX1_chute 93 = .ok (.ireturn, 1) := by decide +kernel
theorem dX1_chute_94 : decode cX1_chute 94 = .ok (.aload_n 3, 1) := by decide +kernel
theorem dX1_chute_95 : decode cX1_chute 95 = .ok (.aload_n 3, 1) := by decide +kernel
theorem dX1_chute_96 : decode cX1_chute 96 = .ok (.getfield 97, 3) := by decide +kernel
theorem dX1_chute_99 : decode cX1_chute 99 = .ok (.invokevirtual 93, 3) := by decide +kernel
theorem dX1_chute_102 : decode cX1_chute 102 = .ok (.ireturn, 1) := by decide +kernel
theorem dX1_chute_103 : decode cX1_chute 103 = .ok (.new 20, 3) := by decide +kernel
theorem dX1_chute_106 : decode cX1_chute 106 = .ok (.dup, 1) := by decide +kernel
theorem dX1_chute_107 : decode cX1_chute 107 = .ok (.ldc 87, 2) := by decide +kernel
theorem dX1_chute_109 : decode cX1_chute 109 = .ok (.invokespecial 24, 3) := by decide +kernel
theorem dX1_chute_112 : decode cX1_chute 112 = .ok (.athrow, 1) := by decide +kernel
set_option maxRecDepth 20000 in
theorem ggX1_weight_X1_chuteAt : GoodIn wsX1_weight wsX1_chuteAt := goodIn_ca (goodIn_r _ [6, 7, 8, 9, 24, 25, 26, 27, 28, 29, 30, 31, 32, 33] (by decide +kernel) (by decide +kernel)) (goodIn_sub (fun _ h => List.mem_cons_of_mem _ (List.mem_append_left _ (List.mem_append_right _ h))) (by decide +kernel))
set_option maxRecDepth 20000 in
theorem gX1_weight_X1_chuteAt : GoodIn wsX1_weight (wsV RX1 16 RX1 yX1_chuteAt wsX1_chuteAt) := goodIn_app (goodIn_of _ (by decide +kernel)) ggX1_weight_X1_chuteAt
set_option maxRecDepth 20000 in
theorem ggX1_weight_X1_requirePlace : GoodIn wsX1_weight wsX1_requirePlace := goodIn_ca (goodIn_r _ [12, 13, 14, 15, 16, 17, 18, 19, 20, 21, 22, 23] (by decide +kernel) (by decide +kernel)) (goodIn_sub (fun _ h => List.mem_cons_of_mem _ (List.mem_append_right _ h)) (by decide +kernel))
set_option maxRecDepth 20000 in
theorem gX1_weight_X1_requirePlace : GoodIn wsX1_weight (va_wsS RX1 100 yX1_requirePlace wsX1_requirePlace) := goodIn_app (goodIn_of _ (by decide +kernel)) ggX1_weight_X1_requirePlace
theorem dX1_weight_0 : decode cX1_weight 0 = .ok (.aload_n 0, 1) := by decide +kernel
theorem dX1_weight_1 : decode cX1_weight 1 = .ok (.iload_n 1, 1) := by decide +kernel
theorem dX1_weight_2 : decode cX1_weight 2 = .ok (.invokevirtual 16, 3) := by decide +kernel
theorem dX1_weight_5 : decode cX1_weight 5 = .ok (.astore_n 3, 1) := by decide +kernel
theorem dX1_weight_6 : decode cX1_weight 6 = .ok (.aload_n 3, 1) := by decide +kernel
theorem dX1_weight_7 : decode cX1_weight 7 = .ok (.iload_n 2, 1) := by decide +kernel
theorem dX1_weight_8 : decode cX1_weight 8 = .ok (.invokestatic 100, 3) := by decide +kernel
theorem dX1_weight_11 : decode cX1_weight 11 = .ok (.aload_n 3, 1) := by decide +kernel
theorem dX1_weight_12 : decode cX1_weight 12 = .ok (.getfield 89, 3) := by decide +kernel
theorem dX1_weight_15 : decode cX1_weight 15 = .ok (.iload_n 2, 1) := by decide +kernel
theorem dX1_weight_16 : decode cX1_weight 16 = .ok (.iaload, 1) := by decide +kernel
theorem dX1_weight_17 : decode cX1_weight 17 = .ok (.ireturn, 1) := by decide +kernel
set_option maxRecDepth 20000 in
theorem ggX1_girth_X1_chuteAt : GoodIn wsX1_girth wsX1_chuteAt := goodIn_ca (goodIn_r _ [6, 7, 8, 9, 24, 25, 26, 27, 28, 29, 30, 31, 32, 33] (by decide +kernel) (by decide +kernel)) (goodIn_sub (fun _ h => List.mem_cons_of_mem _ (List.mem_append_left _ (List.mem_append_right _ h))) (by decide +kernel))
set_option maxRecDepth 20000 in
theorem gX1_girth_X1_chuteAt : GoodIn wsX1_girth (wsV RX1 16 RX1 yX1_chuteAt wsX1_chuteAt) := goodIn_app (goodIn_of _ (by decide +kernel)) ggX1_girth_X1_chuteAt
set_option maxRecDepth 20000 in
theorem ggX1_girth_X1_requirePlace : GoodIn wsX1_girth wsX1_requirePlace := goodIn_ca (goodIn_r _ [12, 13, 14, 15, 16, 17, 18, 19, 20, 21, 22, 23] (by decide +kernel) (by decide +kernel)) (goodIn_sub (fun _ h => List.mem_cons_of_mem _ (List.mem_append_right _ h)) (by decide +kernel))
set_option maxRecDepth 20000 in
theorem gX1_girth_X1_requirePlace : GoodIn wsX1_girth (va_wsS RX1 100 yX1_requirePlace wsX1_requirePlace) := goodIn_app (goodIn_of _ (by decide +kernel)) ggX1_girth_X1_requirePlace
theorem dX1_girth_0 : decode cX1_girth 0 = .ok (.aload_n 0, 1) := by decide +kernel
theorem dX1_girth_1 : decode cX1_girth 1 = .ok (.iload_n 1, 1) := by decide +kernel
theorem dX1_girth_2 : decode cX1_girth 2 = .ok (.invokevirtual 16, 3) := by decide +kernel
theorem dX1_girth_5 : decode cX1_girth 5 = .ok (.astore_n 3, 1) := by decide +kernel
theorem dX1_girth_6 : decode cX1_girth 6 = .ok (.aload_n 3, 1) := by decide +kernel
theorem dX1_girth_7 : decode cX1_girth 7 = .ok (.iload_n 2, 1) := by decide +kernel
theorem dX1_girth_8 : decode cX1_girth 8 = .ok (.invokestatic 100, 3) := by decide +kernel
theorem dX1_girth_11 : decode cX1_girth 11 = .ok (.aload_n 3, 1) := by decide +kernel
theorem dX1_girth_12 : decode cX1_girth 12 = .ok (.getfield 97, 3) := by decide +kernel
theorem dX1_girth_15 : decode cX1_girth 15 = .ok (.iload_n 2, 1) := by decide +kernel
theorem dX1_girth_16 : decode cX1_girth 16 = .ok (.iaload, 1) := by decide +kernel
theorem dX1_girth_17 : decode cX1_girth 17 = .ok (.ireturn, 1) := by decide +kernel
set_option maxRecDepth 20000 in
theorem ggX1_below_X1_chuteAt : GoodIn wsX1_below wsX1_chuteAt := goodIn_ca (goodIn_r _ [7, 8, 9, 10, 34, 35, 36, 37, 38, 39, 40, 41, 42, 43] (by decide +kernel) (by decide +kernel)) (goodIn_sub (fun _ h => List.mem_cons_of_mem _ (List.mem_append_left _ (List.mem_append_right _ h))) (by decide +kernel))
set_option maxRecDepth 20000 in
theorem gX1_below_X1_chuteAt : GoodIn wsX1_below (wsV RX1 16 RX1 yX1_chuteAt wsX1_chuteAt) := goodIn_app (goodIn_of _ (by decide +kernel)) ggX1_below_X1_chuteAt
set_option maxRecDepth 20000 in
theorem ggX1_below_X1_requireWeight : GoodIn wsX1_below wsX1_requireWeight := goodIn_ca (goodIn_r _ [13, 14, 15, 16] (by decide +kernel) (by decide +kernel)) (goodIn_sub (fun _ h => List.mem_cons_of_mem _ (List.mem_append_right _ h)) (by decide +kernel))
set_option maxRecDepth 20000 in
theorem gX1_below_X1_requireWeight : GoodIn wsX1_below (va_wsS RX1 39 yX1_requireWeight wsX1_requireWeight) := goodIn_app (goodIn_of _ (by decide +kernel)) ggX1_below_X1_requireWeight
set_option maxRecDepth 20000 in
theorem ggX1_below_X1_holds : GoodIn wsX1_below wsX1_holds := goodIn_r _ [19, 20, 21, 6, 22] (by decide +kernel) (by decide +kernel)
set_option maxRecDepth 20000 in
theorem gX1_below_X1_holds : GoodIn wsX1_below (va_wsS RX1 46 yX1_holds wsX1_holds) := goodIn_app (goodIn_of _ (by decide +kernel)) ggX1_below_X1_holds
set_option maxRecDepth 20000 in
theorem ggX1_below_X1_oneIf : GoodIn wsX1_below wsX1_oneIf := goodIn_r _ [25] (by decide +kernel) (by decide +kernel)
set_option maxRecDepth 20000 in
theorem gX1_below_X1_oneIf : GoodIn wsX1_below (va_wsS RX1 61 yX1_oneIf wsX1_oneIf) := goodIn_app (goodIn_of _ (by decide +kernel)) ggX1_below_X1_oneIf
theorem dX1_below_0 : decode cX1_below 0 = .ok (.aload_n 0, 1) := by decide +kernel
theorem dX1_below_1 : decode cX1_below 1 = .ok (.iload_n 1, 1) := by decide +kernel
theorem dX1_below_2 : decode cX1_below 2 = .ok (.invokevirtual 16, 3) := by decide +kernel
theorem dX1_below_5 : decode cX1_below 5 = .ok (.astore_n 3, 1) := by decide +kernel
theorem dX1_below_6 : decode cX1_below 6 = .ok (.iload_n 2, 1) := by decide +kernel
theorem dX1_below_7 : decode cX1_below 7 = .ok (.invokestatic 39, 3) := by decide +kernel
theorem dX1_below_10 : decode cX1_below 10 = .ok (.iconst 0, 1) := by decide +kernel
theorem dX1_below_11 : decode cX1_below 11 = .ok (.istore 4, 2) := by decide +kernel
theorem dX1_below_13 : decode cX1_below 13 = .ok (.iconst 0, 1) := by decide +kernel
theorem dX1_below_14 : decode cX1_below 14 = .ok (.istore 5, 2) := by decide +kernel
theorem dX1_below_16 : decode cX1_below 16 = .ok (.iload 5, 2) := by decide +kernel
theorem dX1_below_18 : decode cX1_below 18 = .ok (.aload_n 3, 1) := by decide +kernel
theorem dX1_below_19 : decode cX1_below 19 = .ok (.getfield 27, 3) := by decide +kernel
theorem dX1_below_22 : decode cX1_below 22 = .ok (.if_icmp .ge 29, 3) := by decide +kernel
theorem dX1_below_25 : decode cX1_below 25 = .ok (.iload 4, 2) := by decide +kernel
theorem dX1_below_27 : decode cX1_below 27 = .ok (.aload_n 3, 1) := by decide +kernel
theorem dX1_below_28 : decode cX1_below 28 = .ok (.getfield 89, 3) := by decide +kernel
theorem dX1_below_31 : decode cX1_below 31 = .ok (.iload 5, 2) := by decide +kernel
theorem dX1_below_33 : decode cX1_below 33 = .ok (.iaload, 1) := by decide +kernel
theorem dX1_below_34 : decode cX1_below 34 = .ok (.iconst 1, 1) := by decide +kernel
theorem dX1_below_35 : decode cX1_below 35 = .ok (.iload_n 2, 1) := by decide +kernel
theorem dX1_below_36 : decode cX1_below 36 = .ok (.invokestatic 46, 3) := by decide +kernel
theorem dX1_below_39 : decode cX1_below 39 = .ok (.invokestatic 61, 3) := by decide +kernel
theorem dX1_below_42 : decode cX1_below 42 = .ok (.iadd, 1) := by decide +kernel
theorem dX1_below_43 : decode cX1_below 43 = .ok (.istore 4, 2) := by decide +kernel
theorem dX1_below_45 : decode cX1_below 45 = .ok (.iinc 5 1, 3) := by decide +kernel
theorem dX1_below_48 : decode cX1_below 48 = .ok (.goto (-32), 3) := by decide +kernel
theorem dX1_below_51 : decode cX1_below 51 = .ok (.iload 4, 2) := by decide +kernel
theorem dX1_below_53 : decode cX1_below 53 = .ok (.ireturn, 1) := by decide +kernel
set_option maxRecDepth 20000 in
theorem ggX1_take_X1_chuteAt : GoodIn wsX1_take wsX1_chuteAt := goodIn_ca (goodIn_r _ [6, 7, 8, 9, 42, 43, 44, 45, 46, 47, 48, 49, 50, 51] (by decide +kernel) (by decide +kernel)) (goodIn_sub (fun _ h => List.mem_cons_of_mem _ (List.mem_append_left _ (List.mem_append_left _ (List.mem_append_right _ h)))) (by decide +kernel))
set_option maxRecDepth 20000 in
theorem gX1_take_X1_chuteAt : GoodIn wsX1_take (wsV RX1 16 RX1 yX1_chuteAt wsX1_chuteAt) := goodIn_app (goodIn_of _ (by decide +kernel)) ggX1_take_X1_chuteAt
set_option maxRecDepth 20000 in
theorem ggX1_take_X1_requireWeight : GoodIn wsX1_take wsX1_requireWeight := goodIn_ca (goodIn_r _ [12, 13, 14, 15] (by decide +kernel) (by decide +kernel)) (goodIn_sub (fun _ h => List.mem_cons_of_mem _ (List.mem_append_left _ (List.mem_append_right _ h))) (by decide +kernel))
set_option maxRecDepth 20000 in
theorem gX1_take_X1_requireWeight : GoodIn wsX1_take (va_wsS RX1 39 yX1_requireWeight wsX1_requireWeight) := goodIn_app (goodIn_of _ (by decide +kernel)) ggX1_take_X1_requireWeight
set_option maxRecDepth 20000 in
theorem ggX1_take_X0_firstOf : GoodIn wsX1_take wsX0_firstOf := goodIn_r _ [20, 21, 22, 34, 35, 36, 37, 38, 39, 40, 41] (by decide +kernel) (by decide +kernel)
set_option maxRecDepth 20000 in
theorem gX1_take_X0_firstOf : GoodIn wsX1_take (wsV RX1 104 RX0 yX0_firstOf wsX0_firstOf) := goodIn_app (goodIn_of _ (by decide +kernel)) ggX1_take_X0_firstOf
set_option maxRecDepth 20000 in
theorem ggX1_take_X1_requirePlace : GoodIn wsX1_take wsX1_requirePlace := goodIn_ca (goodIn_r _ [25, 26, 27, 28, 34, 35, 36, 37, 38, 39, 40, 41] (by decide +kernel) (by decide +kernel)) (goodIn_sub (fun _ h => List.mem_cons_of_mem _ (List.mem_append_right _ h)) (by decide +kernel))
set_option maxRecDepth 20000 in
theorem gX1_take_X1_requirePlace : GoodIn wsX1_take (va_wsS RX1 100 yX1_requirePlace wsX1_requirePlace) := goodIn_app (goodIn_of _ (by decide +kernel)) ggX1_take_X1_requirePlace
set_option maxRecDepth 20000 in
theorem ggX1_take_X0_removeAt : GoodIn wsX1_take wsX0_removeAt := goodIn_r _ [32, 21, 22, 33, 34, 35, 36, 37, 38, 39, 40, 41] (by decide +kernel) (by decide +kernel)
set_option maxRecDepth 20000 in
theorem gX1_take_X0_removeAt : GoodIn wsX1_take (wsV RX1 108 RX0 yX0_removeAt wsX0_removeAt) := goodIn_app (goodIn_of _ (by decide +kernel)) ggX1_take_X0_removeAt
theorem dX1_take_0 : decode cX1_take 0 = .ok (.aload_n 0, 1) := by decide +kernel
theorem dX1_take_1 : decode cX1_take 1 = .ok (.iload_n 1, 1) := by decide +kernel
theorem dX1_take_2 : decode cX1_take 2 = .ok (.invokevirtual 16, 3) := by decide +kernel
theorem dX1_take_5 : decode cX1_take 5 = .ok (.astore_n 3, 1) := by decide +kernel
theorem dX1_take_6 : decode cX1_take 6 = .ok (.iload_n 2, 1) := by decide +kernel
theorem dX1_take_7 : decode cX1_take 7 = .ok (.invokestatic 39, 3) := by decide +kernel
theorem dX1_take_10 : decode cX1_take 10 = .ok (.aload_n 3, 1) := by decide +kernel
theorem dX1_take_11 : decode cX1_take 11 = .ok (.iload_n 2, 1) := by decide +kernel
theorem dX1_take_12 : decode cX1_take 12 = .ok (.invokevirtual 104, 3) := by decide +kernel
theorem dX1_take_15 : decode cX1_take 15 = .ok (.istore 4, 2) := by decide +kernel
theorem dX1_take_17 : decode cX1_take 17 = .ok (.aload_n 3, 1) := by decide +kernel
theorem dX1_take_18 : decode cX1_take 18 = .ok (.iload 4, 2) := by decide +kernel
theorem dX1_take_20 : decode cX1_take 20 = .ok (.invokestatic 100, 3) := by decide +kernel
theorem dX1_take_23 : decode cX1_take 23 = .ok (.aload_n 3, 1) := by decide +kernel
theorem dX1_take_24 : decode cX1_take 24 = .ok (.getfield 97, 3) := by decide +kernel
theorem dX1_take_27 : decode cX1_take 27 = .ok (.iload 4, 2) := by decide +kernel
theorem dX1_take_29 : decode cX1_take 29 = .ok (.iaload, 1) := by decide +kernel
theorem dX1_take_30 : decode cX1_take 30 = .ok (.istore 5, 2) := by decide +kernel
theorem dX1_take_32 : decode cX1_take 32 = .ok (.aload_n 3, 1) := by decide +kernel
theorem dX1_take_33 : decode cX1_take 33 = .ok (.iload 4, 2) := by decide +kernel
theorem dX1_take_35 : decode cX1_take 35 = .ok (.invokevirtual 108, 3) := by decide +kernel
theorem dX1_take_38 : decode cX1_take 38 = .ok (.iload 5, 2) := by decide +kernel
theorem dX1_take_40 : decode cX1_take 40 = .ok (.ireturn, 1) := by decide +kernel
set_option maxRecDepth 20000 in
theorem ggX1_pour_X1_chuteAt : GoodIn wsX1_pour wsX1_chuteAt := goodIn_ca (goodIn_r _ [10, 11, 12, 13, 51, 52, 53, 54, 55, 56, 57, 58, 59, 60] (by decide +kernel) (by decide +kernel)) (goodIn_sub (fun _ h => List.mem_cons_of_mem _ (List.mem_append_right _ h)) (by decide +kernel))
set_option maxRecDepth 20000 in
theorem gX1_pour_X1_chuteAt : GoodIn wsX1_pour (wsV RX1 16 RX1 yX1_chuteAt wsX1_chuteAt) := goodIn_app (goodIn_of _ (by decide +kernel)) ggX1_pour_X1_chuteAt
set_option maxRecDepth 20000 in
theorem ggX1_pour_X0_letIn : GoodIn wsX1_pour wsX0_letIn := goodIn_r _ [18, 19, 20, 21, 22, 23, 24, 17, 25, 26, 27, 28, 29, 30, 9, 31, 32, 33, 34, 35, 36, 37, 38, 43, 44, 45, 46, 47, 48, 49, 50] (by decide +kernel) (by decide +kernel)
set_option maxRecDepth 20000 in
theorem gX1_pour_X0_letIn : GoodIn wsX1_pour (wsV RX1 73 RX0 yX0_letIn wsX0_letIn) := goodIn_app (goodIn_of _ (by decide +kernel)) ggX1_pour_X0_letIn
set_option maxRecDepth 20000 in
theorem ggX1_pour_X0_removeAt : GoodIn wsX1_pour wsX0_removeAt := goodIn_r _ [42, 19, 20, 21, 43, 44, 45, 46, 47, 48, 49, 50] (by decide +kernel) (by decide +kernel)
set_option maxRecDepth 20000 in
theorem gX1_pour_X0_removeAt : GoodIn wsX1_pour (wsV RX1 108 RX0 yX0_removeAt wsX0_removeAt) := goodIn_app (goodIn_of _ (by decide +kernel)) ggX1_pour_X0_removeAt
theorem dX1_pour_0 : decode cX1_pour 0 = .ok (.aload_n 0, 1) := by decide +kernel
theorem dX1_pour_1 : decode cX1_pour 1 = .ok (.iload_n 1, 1) := by decide +kernel
theorem dX1_pour_2 : decode cX1_pour 2 = .ok (.invokevirtual 16, 3) := by decide +kernel
theorem dX1_pour_5 : decode cX1_pour 5 = .ok (.astore_n 3, 1) := by decide +kernel
theorem dX1_pour_6 : decode cX1_pour 6 = .ok (.aload_n 0, 1) := by decide +kernel
theorem dX1_pour_7 : decode cX1_pour 7 = .ok (.iload_n 2, 1) := by decide +kernel
theorem dX1_pour_8 : decode cX1_pour 8 = .ok (.invokevirtual 16, 3) := by decide +kernel
theorem dX1_pour_11 : decode cX1_pour 11 = .ok (.astore 4, 2) := by decide +kernel
theorem dX1_pour_13 : decode cX1_pour 13 = .ok (.iload_n 1, 1) := by decide +kernel
theorem dX1_pour_14 : decode cX1_pour 14 = .ok (.iload_n 2, 1) := by decide +kernel
theorem dX1_pour_15 : decode cX1_pour 15 = .ok (.if_icmp .ne 13, 3) := by decide +kernel
theorem dX1_pour_18 : decode cX1_pour 18 = .ok (.new 20, 3) := by decide +kernel
theorem dX1_pour_21 : decode cX1_pour 21 = .ok (.dup, 1) := by decide +kernel
theorem dX1_pour_22 : decode cX1_pour 22 = .ok (.ldc 111, 2) := by decide +kernel
theorem dX1_pour_24 : decode cX1_pour 24 = .ok (.invokespecial 24, 3) := by decide +kernel
theorem dX1_pour_27 : decode cX1_pour 27 = .ok (.athrow, 1) := by decide +kernel
theorem dX1_pour_28 : decode cX1_pour 28 = .ok (.aload_n 3, 1) := by decide +kernel
theorem dX1_pour_29 : decode cX1_pour 29 = .ok (.getfield 27, 3) := by decide +kernel
theorem dX1_pour_32 : decode cX1_pour 32 = .ok (.istore 5, 2) := by decide +kernel
theorem dX1_pour_34 : decode cX1_pour 34 = .ok (.iconst 0, 1) := by decide +kernel
theorem dX1_pour_35 : decode cX1_pour 35 = .ok (.istore 6, 2) := by decide +kernel
theorem dX1_pour_37 : decode cX1_pour 37 = .ok (.iconst 0, 1) := by decide +kernel
theorem dX1_pour_38 : decode cX1_pour 38 = .ok (.istore 7, 2) := by decide +kernel
theorem dX1_pour_40 : decode cX1_pour 40 = .ok (.iload 7, 2) := by decide +kernel
theorem dX1_pour_42 : decode cX1_pour 42 = .ok (.iload 5, 2) := by decide +kernel
theorem dX1_pour_44 : decode cX1_pour 44 = .ok (.if_icmp .ge 43, 3) := by decide +kernel
theorem dX1_pour_47 : decode cX1_pour 47 = .ok (.aload 4, 2) := by decide +kernel
theorem dX1_pour_49 : decode cX1_pour 49 = .ok (.aload_n 3, 1) := by decide +kernel
theorem dX1_pour_50 : decode cX1_pour 50 = .ok (.getfield 89, 3) := by decide +kernel
theorem dX1_pour_53 : decode cX1_pour 53 = .ok (.iload 6, 2) := by decide +kernel
theorem dX1_pour_55 : decode cX1_pour 55 = .ok (.iaload, 1) := by decide +kernel
theorem dX1_pour_56 : decode cX1_pour 56 = .ok (.aload_n 3, 1) := by decide +kernel
theorem dX1_pour_57 : decode cX1_pour 57 = .ok (.getfield 97, 3) := by decide +kernel
theorem dX1_pour_60 : decode cX1_pour 60 = .ok (.iload 6, 2) := by decide +kernel
theorem dX1_pour_62 : decode cX1_pour 62 = .ok (.iaload, 1) := by decide +kernel
theorem dX1_pour_63 : decode cX1_pour 63 = .ok (.invokevirtual 73, 3) := by decide +kernel
theorem dX1_pour_66 : decode cX1_pour 66 = .ok (.ifCond .eq 12, 3) := by decide +kernel
theorem dX1_pour_69 : decode cX1_pour 69 = .ok (.aload_n 3, 1) := by decide +kernel
theorem dX1_pour_70 : decode cX1_pour 70 = .ok (.iload 6, 2) := by decide +kernel
theorem dX1_pour_72 : decode cX1_pour 72 = .ok (.invokevirtual 108, 3) := by decide +kernel
theorem dX1_pour_75 : decode cX1_pour 75 = .ok (.goto 6, 3) := by decide +kernel
theorem dX1_pour_78 : decode cX1_pour 78 = .ok (.iinc 6 1, 3) := by decide +kernel
theorem dX1_pour_81 : decode cX1_pour 81 = .ok (.iinc 7 1, 3) := by decide +kernel
theorem dX1_pour_84 : decode cX1_pour 84 = .ok (.goto (-44), 3) := by decide +kernel
theorem dX1_pour_87 : decode cX1_pour 87 = .ok (.iload 5, 2) := by decide +kernel
theorem dX1_pour_89 : decode cX1_pour 89 = .ok (.iload 6, 2) := by decide +kernel
theorem dX1_pour_91 : decode cX1_pour 91 = .ok (.isub, 1) := by decide +kernel
theorem dX1_pour_92 : decode cX1_pour 92 = .ok (.ireturn, 1) := by decide +kernel
set_option maxRecDepth 20000 in
theorem ggX1_sweep_X1_chuteAt : GoodIn wsX1_sweep wsX1_chuteAt := goodIn_ca (goodIn_r _ [8, 9, 10, 11, 48, 49, 50, 51, 52, 53, 54, 55, 56, 57] (by decide +kernel) (by decide +kernel)) (goodIn_sub (fun _ h => List.mem_cons_of_mem _ (List.mem_append_right _ h)) (by decide +kernel))
set_option maxRecDepth 20000 in
theorem gX1_sweep_X1_chuteAt : GoodIn wsX1_sweep (wsV RX1 16 RX1 yX1_chuteAt wsX1_chuteAt) := goodIn_app (goodIn_of _ (by decide +kernel)) ggX1_sweep_X1_chuteAt
set_option maxRecDepth 20000 in
theorem ggX1_sweep_X0_suits : GoodIn wsX1_sweep wsX0_suits := goodIn_r _ [16, 17, 18, 19, 20, 21, 7, 22, 23, 24, 25, 40, 41, 42, 43, 44, 45, 46, 47] (by decide +kernel) (by decide +kernel)
set_option maxRecDepth 20000 in
theorem gX1_sweep_X0_suits : GoodIn wsX1_sweep (wsV RX1 80 RX0 yX0_suits wsX0_suits) := goodIn_app (goodIn_of _ (by decide +kernel)) ggX1_sweep_X0_suits
set_option maxRecDepth 20000 in
theorem ggX1_sweep_X1_putAside : GoodIn wsX1_sweep wsX1_putAside := goodIn_r _ [29, 30, 31, 32, 48, 49, 50, 51, 52, 53, 54, 55, 56, 57] (by decide +kernel) (by decide +kernel)
set_option maxRecDepth 20000 in
theorem gX1_sweep_X1_putAside : GoodIn wsX1_sweep (wsV RX1 77 RX1 yX1_putAside wsX1_putAside) := goodIn_app (goodIn_of _ (by decide +kernel)) ggX1_sweep_X1_putAside
set_option maxRecDepth 20000 in
theorem ggX1_sweep_X0_removeAt : GoodIn wsX1_sweep wsX0_removeAt := goodIn_r _ [36, 37, 38, 39, 40, 41, 42, 43, 44, 45, 46, 47] (by decide +kernel) (by decide +kernel)
set_option maxRecDepth 20000 in
theorem gX1_sweep_X0_removeAt : GoodIn wsX1_sweep (wsV RX1 108 RX0 yX0_removeAt wsX0_removeAt) := goodIn_app (goodIn_of _ (by decide +kernel)) ggX1_sweep_X0_removeAt
theorem dX1_sweep_0 : decode cX1_sweep 0 = .ok (.aload_n 0, 1) := by decide +kernel
theorem dX1_sweep_1 : decode cX1_sweep 1 = .ok (.iload_n 1, 1) := by decide +kernel
theorem dX1_sweep_2 : decode cX1_sweep 2 = .ok (.invokevirtual 16, 3) := by decide +kernel
theorem dX1_sweep_5 : decode cX1_sweep 5 = .ok (.astore_n 2, 1) := by decide +kernel
theorem dX1_sweep_6 : decode cX1_sweep 6 = .ok (.aload_n 2, 1) := by decide +kernel
theorem dX1_sweep_7 : decode cX1_sweep 7 = .ok (.getfield 27, 3) := by decide +kernel
theorem dX1_sweep_10 : decode cX1_sweep 10 = .ok (.istore_n 3, 1) := by decide +kernel
theorem dX1_sweep_11 : decode cX1_sweep 11 = .ok (.iconst 0, 1) := by decide +kernel
theorem dX1_sweep_12 : decode cX1_sweep 12 = .ok (.istore 4, 2) := by decide +kernel
theorem dX1_sweep_14 : decode cX1_sweep 14 = .ok (.iconst 0, 1) := by decide +kernel
theorem dX1_sweep_15 : decode cX1_sweep 15 = .ok (.istore 5, 2) := by decide +kernel
theorem dX1_sweep_17 : decode cX1_sweep 17 = .ok (.iload 5, 2) := by decide +kernel
theorem dX1_sweep_19 : decode cX1_sweep 19 = .ok (.iload_n 3, 1) := by decide +kernel
theorem dX1_sweep_20 : decode cX1_sweep 20 = .ok (.if_icmp .ge 60, 3) := by decide +kernel
theorem dX1_sweep_23 : decode cX1_sweep 23 = .ok (.aload_n 2, 1) := by decide +kernel
theorem dX1_sweep_24 : decode cX1_sweep 24 = .ok (.aload_n 2, 1) := by decide +kernel
theorem dX1_sweep_25 : decode cX1_sweep 25 = .ok (.getfield 89, 3) := by decide +kernel
theorem dX1_sweep_28 : decode cX1_sweep 28 = .ok (.iload 4, 2) := by decide +kernel
theorem dX1_sweep_30 : decode cX1_sweep 30 = .ok (.iaload, 1) := by decide +kernel
theorem dX1_sweep_31 : decode cX1_sweep 31 = .ok (.aload_n 2, 1) := by decide +kernel
theorem dX1_sweep_32 : decode cX1_sweep 32 = .ok (.getfield 97, 3) := by decide +kernel
theorem dX1_sweep_35 : decode cX1_sweep 35 = .ok (.iload 4, 2) := by decide +kernel
theorem dX1_sweep_37 : decode cX1_sweep 37 = .ok (.iaload, 1) := by decide +kernel
theorem dX1_sweep_38 : decode cX1_sweep 38 = .ok (.invokevirtual 80, 3) := by decide +kernel
theorem dX1_sweep_41 : decode cX1_sweep 41 = .ok (.ifCond .eq 9, 3) := by decide +kernel
theorem dX1_sweep_44 : decode cX1_sweep 44 = .ok (.iinc 4 1, 3) := by decide +kernel
theorem dX1_sweep_47 : decode cX1_sweep 47 = .ok (.goto 27, 3) := by decide +kernel
theorem dX1_sweep_50 : decode cX1_sweep 50 = .ok (.aload_n 0, 1) := by decide +kernel
theorem dX1_sweep_51 : decode cX1_sweep 51 = .ok (.aload_n 2, 1) := by decide +kernel
theorem dX1_sweep_52 : decode cX1_sweep 52 = .ok (.getfield 89, 3) := by decide +kernel
theorem dX1_sweep_55 : decode cX1_sweep 55 = .ok (.iload 4, 2) := by decide +kernel
theorem dX1_sweep_57 : decode cX1_sweep 57 = .ok (.iaload, 1) := by decide +kernel
theorem dX1_sweep_58 : decode cX1_sweep 58 = .ok (.aload_n 2, 1) := by decide +kernel
theorem dX1_sweep_59 : decode cX1_sweep 59 = .ok (.getfield 97, 3) := by decide +kernel
theorem dX1_sweep_62 : decode cX1_sweep 62 = .ok (.iload 4, 2) := by decide +kernel
theorem dX1_sweep_64 : decode cX1_sweep 64 = .ok (.iaload, 1) := by decide +kernel
theorem dX1_sweep_65 : decode cX1_sweep 65 = .ok (.invokevirtual 77, 3) := by decide +kernel
theorem dX1_sweep_68 : decode cX1_sweep 68 = .ok (.aload_n 2, 1) := by decide +kernel
theorem dX1_sweep_69 : decode cX1_sweep 69 = .ok (.iload 4, 2) := by decide +kernel
theorem dX1_sweep_71 : decode cX1_sweep 71 = .ok (.invokevirtual 108, 3) := by decide +kernel
theorem dX1_sweep_74 : decode cX1_sweep 74 = .ok (.iinc 5 1, 3) := by decide +kernel
theorem dX1_sweep_77 : decode cX1_sweep 77 = .ok (.goto (-60), 3) := by decide +kernel
theorem dX1_sweep_80 : decode cX1_sweep 80 = .ok (.iload_n 3, 1) := by decide +kernel
theorem dX1_sweep_81 : decode cX1_sweep 81 = .ok (.iload 4, 2) := by decide +kernel
theorem dX1_sweep_83 : decode cX1_sweep 83 = .ok (.isub, 1) := by decide +kernel
theorem dX1_sweep_84 : decode cX1_sweep 84 = .ok (.ireturn, 1) := by decide +kernel
set_option maxRecDepth 20000 in
theorem ggX1_heavier_X1_chuteAt : GoodIn wsX1_heavier wsX1_chuteAt := goodIn_ca (goodIn_r _ [5, 6, 7, 8, 28, 29, 30, 31, 32, 33, 34, 35, 36, 37] (by decide +kernel) (by decide +kernel)) (goodIn_sub (fun _ h => List.mem_cons_of_mem _ (List.mem_append_right _ h)) (by decide +kernel))
set_option maxRecDepth 20000 in
theorem gX1_heavier_X1_chuteAt : GoodIn wsX1_heavier (wsV RX1 16 RX1 yX1_chuteAt wsX1_chuteAt) := goodIn_app (goodIn_of _ (by decide +kernel)) ggX1_heavier_X1_chuteAt
set_option maxRecDepth 20000 in
theorem ggX1_heavier_X0_heaviestKnown : GoodIn wsX1_heavier wsX0_heaviestKnown := goodIn_r _ [13, 14, 15, 16, 17, 18, 12, 19, 20, 4, 21, 38, 39, 40, 41, 42, 43, 44, 45] (by decide +kernel) (by decide +kernel)
set_option maxRecDepth 20000 in
theorem gX1_heavier_X0_heaviestKnown : GoodIn wsX1_heavier (wsV RX1 113 RX0 yX0_heaviestKnown wsX0_heaviestKnown) := goodIn_app (goodIn_of _ (by decide +kernel)) ggX1_heavier_X0_heaviestKnown
set_option maxRecDepth 20000 in
theorem ggX1_heavier_X1_holds : GoodIn wsX1_heavier wsX1_holds := goodIn_r _ [24, 25, 26, 4, 27] (by decide +kernel) (by decide +kernel)
set_option maxRecDepth 20000 in
theorem gX1_heavier_X1_holds : GoodIn wsX1_heavier (va_wsS RX1 46 yX1_holds wsX1_holds) := goodIn_app (goodIn_of _ (by decide +kernel)) ggX1_heavier_X1_holds
theorem dX1_heavier_0 : decode cX1_heavier 0 = .ok (.aload_n 0, 1) := by decide +kernel
theorem dX1_heavier_1 : decode cX1_heavier 1 = .ok (.iload_n 1, 1) := by decide +kernel
theorem dX1_heavier_2 : decode cX1_heavier 2 = .ok (.invokevirtual 16, 3) := by decide +kernel
theorem dX1_heavier_5 : decode cX1_heavier 5 = .ok (.invokevirtual 113, 3) := by decide +kernel
theorem dX1_heavier_8 : decode cX1_heavier 8 = .ok (.istore_n 3, 1) := by decide +kernel
theorem dX1_heavier_9 : decode cX1_heavier 9 = .ok (.aload_n 0, 1) := by decide +kernel
theorem dX1_heavier_10 : decode cX1_heavier 10 = .ok (.iload_n 2, 1) := by decide +kernel
theorem dX1_heavier_11 : decode cX1_heavier 11 = .ok (.invokevirtual 16, 3) := by decide +kernel
theorem dX1_heavier_14 : decode cX1_heavier 14 = .ok (.invokevirtual 113, 3) := by decide +kernel
theorem dX1_heavier_17 : decode cX1_heavier 17 = .ok (.istore 4, 2) := by decide +kernel
theorem dX1_heavier_19 : decode cX1_heavier 19 = .ok (.iload_n 3, 1) := by decide +kernel
theorem dX1_heavier_20 : decode cX1_heavier 20 = .ok (.iconst 4, 1) := by decide +kernel
theorem dX1_heavier_21 : decode cX1_heavier 21 = .ok (.iload 4, 2) := by decide +kernel
theorem dX1_heavier_23 : decode cX1_heavier 23 = .ok (.invokestatic 46, 3) := by decide +kernel
theorem dX1_heavier_26 : decode cX1_heavier 26 = .ok (.ifCond .eq 5, 3) := by decide +kernel
theorem dX1_heavier_29 : decode cX1_heavier 29 = .ok (.iconst 1, 1) := by decide +kernel
theorem dX1_heavier_30 : decode cX1_heavier 30 = .ok (.ireturn, 1) := by decide +kernel
theorem dX1_heavier_31 : decode cX1_heavier 31 = .ok (.iload_n 3, 1) := by decide +kernel
theorem dX1_heavier_32 : decode cX1_heavier 32 = .ok (.iconst 1, 1) := by decide +kernel
theorem dX1_heavier_33 : decode cX1_heavier 33 = .ok (.iload 4, 2) := by decide +kernel
theorem dX1_heavier_35 : decode cX1_heavier 35 = .ok (.invokestatic 46, 3) := by decide +kernel
theorem dX1_heavier_38 : decode cX1_heavier 38 = .ok (.ifCond .eq 5, 3) := by decide +kernel
theorem dX1_heavier_41 : decode cX1_heavier 41 = .ok (.iconst (-1), 1) := by decide +kernel
theorem dX1_heavier_42 : decode cX1_heavier 42 = .ok (.ireturn, 1) := by decide +kernel
theorem dX1_heavier_43 : decode cX1_heavier 43 = .ok (.iload_n 3, 1) := by decide +kernel
theorem dX1_heavier_44 : decode cX1_heavier 44 = .ok (.bipush 16, 2) := by decide +kernel
theorem dX1_heavier_46 : decode cX1_heavier 46 = .ok (.iload 4, 2) := by decide +kernel
theorem dX1_heavier_48 : decode cX1_heavier 48 = .ok (.invokestatic 46, 3) := by decide +kernel
theorem dX1_heavier_51 : decode cX1_heavier 51 = .ok (.ifCond .eq 7, 3) := by decide +kernel
theorem dX1_heavier_54 : decode cX1_heavier 54 = .ok (.iconst 0, 1) := by decide +kernel
theorem dX1_heavier_55 : decode cX1_heavier 55 = .ok (.goto 4, 3) := by decide +kernel
theorem dX1_heavier_58 : decode cX1_heavier 58 = .ok (.iconst 2, 1) := by decide +kernel
theorem dX1_heavier_59 : decode cX1_heavier 59 = .ok (.ireturn, 1) := by decide +kernel
set_option maxRecDepth 20000 in
theorem ggX1_alike_X1_chuteAt : GoodIn wsX1_alike wsX1_chuteAt := goodIn_ca (goodIn_r _ [12, 13, 14, 15, 30, 31, 32, 33, 34, 35, 36, 37, 38, 39] (by decide +kernel) (by decide +kernel)) (goodIn_sub (fun _ h => List.mem_cons_of_mem _ (List.mem_append_right _ h)) (by decide +kernel))
set_option maxRecDepth 20000 in
theorem gX1_alike_X1_chuteAt : GoodIn wsX1_alike (wsV RX1 16 RX1 yX1_chuteAt wsX1_chuteAt) := goodIn_app (goodIn_of _ (by decide +kernel)) ggX1_alike_X1_chuteAt
set_option maxRecDepth 20000 in
theorem ggX1_alike_X1_holds : GoodIn wsX1_alike wsX1_holds := goodIn_r _ [18, 19, 20, 11, 21] (by decide +kernel) (by decide +kernel)
set_option maxRecDepth 20000 in
theorem gX1_alike_X1_holds : GoodIn wsX1_alike (va_wsS RX1 46 yX1_holds wsX1_holds) := goodIn_app (goodIn_of _ (by decide +kernel)) ggX1_alike_X1_holds
theorem dX1_alike_0 : decode cX1_alike 0 = .ok (.aload_n 0, 1) := by decide +kernel
theorem dX1_alike_1 : decode cX1_alike 1 = .ok (.iload_n 1, 1) := by decide +kernel
theorem dX1_alike_2 : decode cX1_alike 2 = .ok (.invokevirtual 16, 3) := by decide +kernel
theorem dX1_alike_5 : decode cX1_alike 5 = .ok (.astore_n 3, 1) := by decide +kernel
theorem dX1_alike_6 : decode cX1_alike 6 = .ok (.aload_n 0, 1) := by decide +kernel
theorem dX1_alike_7 : decode cX1_alike 7 = .ok (.iload_n 2, 1) := by decide +kernel
theorem dX1_alike_8 : decode cX1_alike 8 = .ok (.invokevirtual 16, 3) := by decide +kernel
theorem dX1_alike_11 : decode cX1_alike 11 = .ok (.astore 4, 2) := by decide +kernel
theorem dX1_alike_13 : decode cX1_alike 13 = .ok (.aload_n 3, 1) := by decide +kernel
theorem dX1_alike_14 : decode cX1_alike 14 = .ok (.getfield 27, 3) := by decide +kernel
theorem dX1_alike_17 : decode cX1_alike 17 = .ok (.aload 4, 2) := by decide +kernel
theorem dX1_alike_19 : decode cX1_alike 19 = .ok (.getfield 27, 3) := by decide +kernel
theorem dX1_alike_22 : decode cX1_alike 22 = .ok (.invokestatic 117, 3) := by decide +kernel
theorem dX1_alike_25 : decode cX1_alike 25 = .ok (.istore 5, 2) := by decide +kernel
theorem dX1_alike_27 : decode cX1_alike 27 = .ok (.iconst 0, 1) := by decide +kernel
theorem dX1_alike_28 : decode cX1_alike 28 = .ok (.istore 6, 2) := by decide +kernel
theorem dX1_alike_30 : decode cX1_alike 30 = .ok (.iload 6, 2) := by decide +kernel
theorem dX1_alike_32 : decode cX1_alike 32 = .ok (.iload 5, 2) := by decide +kernel
theorem dX1_alike_34 : decode cX1_alike 34 = .ok (.if_icmp .ge 58, 3) := by decide +kernel
theorem dX1_alike_37 : decode cX1_alike 37 = .ok (.aload_n 3, 1) := by decide +kernel
theorem dX1_alike_38 : decode cX1_alike 38 = .ok (.getfield 89, 3) := by decide +kernel
theorem dX1_alike_41 : decode cX1_alike 41 = .ok (.iload 6, 2) := by decide +kernel
theorem dX1_alike_43 : decode cX1_alike 43 = .ok (.iaload, 1) := by decide +kernel
theorem dX1_alike_44 : decode cX1_alike 44 = .ok (.bipush 16, 2) := by decide +kernel
theorem dX1_alike_46 : decode cX1_alike 46 = .ok (.aload 4, 2) := by decide +kernel
theorem dX1_alike_48 : decode cX1_alike 48 = .ok (.getfield 89, 3) := by decide +kernel
theorem dX1_alike_51 : decode cX1_alike 51 = .ok (.iload 6, 2) := by decide +kernel
theorem dX1_alike_53 : decode cX1_alike 53 = .ok (.iaload, 1) := by decide +kernel
theorem dX1_alike_54 : decode cX1_alike 54 = .ok (.invokestatic 46, 3) := by decide +kernel
theorem dX1_alike_57 : decode cX1_alike 57 = .ok (.ifCond .eq 26, 3) := by decide +kernel
theorem dX1_alike_60 : decode cX1_alike 60 = .ok (.aload_n 3, 1) := by decide +kernel
theorem dX1_alike_61 : decode cX1_alike 61 = .ok (.getfield 97, 3) := by decide +kernel
theorem dX1_alike_64 : decode cX1_alike 64 = .ok (.iload 6, 2) := by decide +kernel
theorem dX1_alike_66 : decode cX1_alike 66 = .ok (.iaload, 1) := by decide +kernel
theorem dX1_alike_67 : decode cX1_alike 67 = .ok (.bipush 16, 2) := by decide +kernel
theorem dX1_alike_69 : decode cX1_alike 69 = .ok (.aload 4, 2) := by decide +kernel
theorem dX1_alike_71 : decode cX1_alike 71 = .ok (.getfield 97, 3) := by decide +kernel
theorem dX1_alike_74 : decode cX1_alike 74 = .ok (.iload 6, 2) := by decide +kernel
theorem dX1_alike_76 : decode cX1_alike 76 = .ok (.iaload, 1) := by decide +kernel
theorem dX1_alike_77 : decode cX1_alike 77 = .ok (.invokestatic 46, 3) := by decide +kernel
theorem dX1_alike_80 : decode cX1_alike 80 = .ok (.ifCond .ne 6, 3) := by decide +kernel
theorem dX1_alike_83 : decode cX1_alike 83 = .ok (.iload 6, 2) := by decide +kernel
theorem dX1_alike_85 : decode cX1_alike 85 = .ok (.ireturn, 1) := by decide +kernel
theorem dX1_alike_86 : decode cX1_alike 86 = .ok (.iinc 6 1, 3) := by decide +kernel
theorem dX1_alike_89 : decode cX1_alike 89 = .ok (.goto (-59), 3) := by decide +kernel
theorem dX1_alike_92 : decode cX1_alike 92 = .ok (.iload 5, 2) := by decide +kernel
theorem dX1_alike_94 : decode cX1_alike 94 = .ok (.ireturn, 1) := by decide +kernel
theorem dX1_gauge_0 : decode cX1_gauge 0 = .ok (.iload_n 1, 1) := by decide +kernel
theorem dX1_gauge_1 : decode cX1_gauge 1 = .ok (.tableswitch 87 0 7 #[47, 52, 57, 62, 67, 72, 77, 82], 47) := by decide +kernel
theorem dX1_gauge_48 : decode cX1_gauge 48 = .ok (.aload_n 0, 1) := by decide +kernel
theorem dX1_gauge_49 : decode cX1_gauge 49 = .ok (.getfield 122, 3) := by decide +kernel
theorem dX1_gauge_52 : decode cX1_gauge 52 = .ok (.ireturn, 1) := by decide +kernel
theorem dX1_gauge_53 : decode cX1_gauge 53 = .ok (.aload_n 0, 1) := by decide +kernel
theorem dX1_gauge_54 : decode cX1_gauge 54 = .ok (.getfield 125, 3) := by decide +kernel
theorem dX1_gauge_57 : decode cX1_gauge 57 = .ok (.ireturn, 1) := by decide +kernel
theorem dX1_gauge_58 : decode cX1_gauge 58 = .ok (.aload_n 0, 1) := by decide +kernel
theorem dX1_gauge_59 : decode cX1_gauge 59 = .ok (.getfield 128, 3) := by decide +kernel
theorem dX1_gauge_62 : decode cX1_gauge 62 = .ok (.ireturn, 1) := by decide +kernel
theorem dX1_gauge_63 : decode cX1_gauge 63 = .ok (.aload_n 0, 1) := by decide +kernel
theorem dX1_gauge_64 : decode cX1_gauge 64 = .ok (.getfield 131, 3) := by decide +kernel
theorem dX1_gauge_67 : decode cX1_gauge 67 = .ok (.ireturn, 1) := by decide +kernel
theorem dX1_gauge_68 : decode cX1_gauge 68 = .ok (.aload_n 0, 1) := by decide +kernel
theorem dX1_gauge_69 : decode cX1_gauge 69 = .ok (.getfield 134, 3) := by decide +kernel
theorem dX1_gauge_72 : decode cX1_gauge 72 = .ok (.ireturn, 1) := by decide +kernel
theorem dX1_gauge_73 : decode cX1_gauge 73 = .ok (.aload_n 0, 1) := by decide +kernel
theorem dX1_gauge_74 : decode cX1_gauge 74 = .ok (.getfield 137, 3) := by decide +kernel
theorem dX1_gauge_77 : decode cX1_gauge 77 = .ok (.ireturn, 1) := by decide +kernel
theorem dX1_gauge_78 : decode cX1_gauge 78 = .ok (.aload_n 0, 1) := by decide +kernel
theorem dX1_gauge_79 : decode cX1_gauge 79 = .ok (.getfield 140, 3) := by decide +kernel
theorem dX1_gauge_82 : decode cX1_gauge 82 = .ok (.ireturn, 1) := by decide +kernel
theorem dX1_gauge_83 : decode cX1_gauge 83 = .ok (.aload_n 0, 1) := by decide +kernel
theorem dX1_gauge_84 : decode cX1_gauge 84 = .ok (.getfield 143, 3) := by decide +kernel
theorem dX1_gauge_87 : decode cX1_gauge 87 = .ok (.ireturn, 1) := by decide +kernel
theorem dX1_gauge_88 : decode cX1_gauge 88 = .ok (.new 20, 3) := by decide +kernel
theorem dX1_gauge_91 : decode cX1_gauge 91 = .ok (.dup, 1) := by decide +kernel
theorem dX1_gauge_92 : decode cX1_gauge 92 = .ok (.ldc 87, 2) := by decide +kernel
theorem dX1_gauge_94 : decode cX1_gauge 94 = .ok (.invokespecial 24, 3) := by decide +kernel
theorem dX1_gauge_97 : decode cX1_gauge 97 = .ok (.athrow, 1) := by decide +kernel
theorem dX1_chuteAt_0 : decode cX1_chuteAt 0 = .ok (.iload_n 1, 1) := by decide +kernel
theorem dX1_chuteAt_1 : decode cX1_chuteAt 1 = .ok (.ifCond .lt 9, 3) := by decide +kernel
theorem dX1_chuteAt_4 : decode cX1_chuteAt 4 = .ok (.iload_n 1, 1) := by decide +kernel
theorem dX1_chuteAt_5 : decode cX1_chuteAt 5 = .ok (.bipush 8, 2) := by decide +kernel
theorem dX1_chuteAt_7 : decode cX1_chuteAt 7 = .ok (.if_icmp .lt 13, 3) := by decide +kernel
theorem dX1_chuteAt_10 : decode cX1_chuteAt 10 = .ok (.new 146, 3) := by decide +kernel
theorem dX1_chuteAt_13 : decode cX1_chuteAt 13 = .ok (.dup, 1) := by decide +kernel
theorem dX1_chuteAt_14 : decode cX1_chuteAt 14 = .ok (.ldc 148, 2) := by decide +kernel
theorem dX1_chuteAt_16 : decode cX1_chuteAt 16 = .ok (.invokespecial 150, 3) := by decide +kernel
theorem dX1_chuteAt_19 : decode cX1_chuteAt 19 = .ok (.athrow, 1) := by decide +kernel
theorem dX1_chuteAt_20 : decode cX1_chuteAt 20 = .ok (.aload_n 0, 1) := by decide +kernel
theorem dX1_chuteAt_21 : decode cX1_chuteAt 21 = .ok (.getfield 11, 3) := by decide +kernel
theorem dX1_chuteAt_24 : decode cX1_chuteAt 24 = .ok (.iload_n 1, 1) := by decide +kernel
theorem dX1_chuteAt_25 : decode cX1_chuteAt 25 = .ok (.aaload, 1) := by decide +kernel
theorem dX1_chuteAt_26 : decode cX1_chuteAt 26 = .ok (.areturn, 1) := by decide +kernel
set_option maxRecDepth 20000 in
theorem ggX1_readGauges_X1_holds : GoodIn wsX1_readGauges wsX1_holds := goodIn_r _ [10, 11, 12, 9, 13] (by decide +kernel) (by decide +kernel)
set_option maxRecDepth 20000 in
theorem gX1_readGauges_X1_holds : GoodIn wsX1_readGauges (va_wsS RX1 46 yX1_holds wsX1_holds) := goodIn_app (goodIn_of _ (by decide +kernel)) ggX1_readGauges_X1_holds
theorem dX1_readGauges_0 : decode cX1_readGauges 0 = .ok (.aload_n 0, 1) := by decide +kernel
theorem dX1_readGauges_1 : decode cX1_readGauges 1 = .ok (.getfield 122, 3) := by decide +kernel
theorem dX1_readGauges_4 : decode cX1_readGauges 4 = .ok (.ifCond .eq 15, 3) := by decide +kernel
theorem dX1_readGauges_7 : decode cX1_readGauges 7 = .ok (.iload_n 1, 1) := by decide +kernel
theorem dX1_readGauges_8 : decode cX1_readGauges 8 = .ok (.iconst 1, 1) := by decide +kernel
theorem dX1_readGauges_9 : decode cX1_readGauges 9 = .ok (.aload_n 0, 1) := by decide +kernel
theorem dX1_readGauges_10 : decode cX1_readGauges 10 = .ok (.getfield 122, 3) := by decide +kernel
theorem dX1_readGauges_13 : decode cX1_readGauges 13 = .ok (.invokestatic 46, 3) := by decide +kernel
theorem dX1_readGauges_16 : decode cX1_readGauges 16 = .ok (.ifCond .eq 8, 3) := by decide +kernel
theorem dX1_readGauges_19 : decode cX1_readGauges 19 = .ok (.aload_n 0, 1) := by decide +kernel
theorem dX1_readGauges_20 : decode cX1_readGauges 20 = .ok (.iload_n 1, 1) := by decide +kernel
theorem dX1_readGauges_21 : decode cX1_readGauges 21 = .ok (.putfield 122, 3) := by decide +kernel
theorem dX1_readGauges_24 : decode cX1_readGauges 24 = .ok (.aload_n 0, 1) := by decide +kernel
theorem dX1_readGauges_25 : decode cX1_readGauges 25 = .ok (.getfield 125, 3) := by decide +kernel
theorem dX1_readGauges_28 : decode cX1_readGauges 28 = .ok (.ifCond .eq 15, 3) := by decide +kernel
theorem dX1_readGauges_31 : decode cX1_readGauges 31 = .ok (.iload_n 1, 1) := by decide +kernel
theorem dX1_readGauges_32 : decode cX1_readGauges 32 = .ok (.iconst 4, 1) := by decide +kernel
theorem dX1_readGauges_33 : decode cX1_readGauges 33 = .ok (.aload_n 0, 1) := by decide +kernel
theorem dX1_readGauges_34 : decode cX1_readGauges 34 = .ok (.getfield 125, 3) := by decide +kernel
theorem dX1_readGauges_37 : decode cX1_readGauges 37 = .ok (.invokestatic 46, 3) := by decide +kernel
theorem dX1_readGauges_40 : decode cX1_readGauges 40 = .ok (.ifCond .eq 8, 3) := by decide +kernel
theorem dX1_readGauges_43 : decode cX1_readGauges 43 = .ok (.aload_n 0, 1) := by decide +kernel
theorem dX1_readGauges_44 : decode cX1_readGauges 44 = .ok (.iload_n 1, 1) := by decide +kernel
theorem dX1_readGauges_45 : decode cX1_readGauges 45 = .ok (.putfield 125, 3) := by decide +kernel
theorem dX1_readGauges_48 : decode cX1_readGauges 48 = .ok (.aload_n 0, 1) := by decide +kernel
theorem dX1_readGauges_49 : decode cX1_readGauges 49 = .ok (.getfield 128, 3) := by decide +kernel
theorem dX1_readGauges_52 : decode cX1_readGauges 52 = .ok (.ifCond .eq 15, 3) := by decide +kernel
theorem dX1_readGauges_55 : decode cX1_readGauges 55 = .ok (.iload_n 2, 1) := by decide +kernel
theorem dX1_readGauges_56 : decode cX1_readGauges 56 = .ok (.iconst 4, 1) := by decide +kernel
theorem dX1_readGauges_57 : decode cX1_readGauges 57 = .ok (.aload_n 0, 1) := by decide +kernel
theorem dX1_readGauges_58 : decode cX1_readGauges 58 = .ok (.getfield 128, 3) := by decide +kernel
theorem dX1_readGauges_61 : decode cX1_readGauges 61 = .ok (.invokestatic 46, 3) := by decide +kernel
theorem dX1_readGauges_64 : decode cX1_readGauges 64 = .ok (.ifCond .eq 8, 3) := by decide +kernel
theorem dX1_readGauges_67 : decode cX1_readGauges 67 = .ok (.aload_n 0, 1) := by decide +kernel
theorem dX1_readGauges_68 : decode cX1_readGauges 68 = .ok (.iload_n 2, 1) := by decide +kernel
theorem dX1_readGauges_69 : decode cX1_readGauges 69 = .ok (.putfield 128, 3) := by decide +kernel
theorem dX1_readGauges_72 : decode cX1_readGauges 72 = .ok (.aload_n 0, 1) := by decide +kernel
theorem dX1_readGauges_73 : decode cX1_readGauges 73 = .ok (.iload_n 1, 1) := by decide +kernel
theorem dX1_readGauges_74 : decode cX1_readGauges 74 = .ok (.iconst 1, 1) := by decide +kernel
theorem dX1_readGauges_75 : decode cX1_readGauges 75 = .ok (.aload_n 0, 1) := by decide +kernel
theorem dX1_readGauges_76 : decode cX1_readGauges 76 = .ok (.getfield 151, 3) := by decide +kernel
theorem dX1_readGauges_79 : decode cX1_readGauges 79 = .ok (.invokestatic 46, 3) := by decide +kernel
theorem dX1_readGauges_82 : decode cX1_readGauges 82 = .ok (.ifCond .eq 7, 3) := by decide +kernel
theorem dX1_readGauges_85 : decode cX1_readGauges 85 = .ok (.iconst 1, 1) := by decide +kernel
theorem dX1_readGauges_86 : decode cX1_readGauges 86 = .ok (.goto 9, 3) := by decide +kernel
theorem dX1_readGauges_89 : decode cX1_readGauges 89 = .ok (.aload_n 0, 1) := by decide +kernel
theorem dX1_readGauges_90 : decode cX1_readGauges 90 = .ok (.getfield 131, 3) := by decide +kernel
theorem dX1_readGauges_93 : decode cX1_readGauges 93 = .ok (.iconst 1, 1) := by decide +kernel
theorem dX1_readGauges_94 : decode cX1_readGauges 94 = .ok (.iadd, 1) := by decide +kernel
theorem dX1_readGauges_95 : decode cX1_readGauges 95 = .ok (.putfield 131, 3) := by decide +kernel
theorem dX1_readGauges_98 : decode cX1_readGauges 98 = .ok (.aload_n 0, 1) := by decide +kernel
theorem dX1_readGauges_99 : decode cX1_readGauges 99 = .ok (.iload_n 1, 1) := by decide +kernel
theorem dX1_readGauges_100 : decode cX1_readGauges 100 = .ok (.putfield 151, 3) := by decide +kernel
theorem dX1_readGauges_103 : decode cX1_readGauges 103 = .ok (.aload_n 0, 1) := by decide +kernel
theorem dX1_readGauges_104 : decode cX1_readGauges 104 = .ok (.dup, 1) := by decide +kernel
theorem dX1_readGauges_105 : decode cX1_readGauges 105 = .ok (.getfield 134, 3) := by decide +kernel
theorem dX1_readGauges_108 : decode cX1_readGauges 108 = .ok (.iconst 1, 1) := by decide +kernel
theorem dX1_readGauges_109 : decode cX1_readGauges 109 = .ok (.iadd, 1) := by decide +kernel
theorem dX1_readGauges_110 : decode cX1_readGauges 110 = .ok (.putfield 134, 3) := by decide +kernel
theorem dX1_readGauges_113 : decode cX1_readGauges 113 = .ok (.return_, 1) := by decide +kernel
theorem dX1_putAside_0 : decode cX1_putAside 0 = .ok (.aload_n 0, 1) := by decide +kernel
theorem dX1_putAside_1 : decode cX1_putAside 1 = .ok (.dup, 1) := by decide +kernel
theorem dX1_putAside_2 : decode cX1_putAside 2 = .ok (.getfield 137, 3) := by decide +kernel
theorem dX1_putAside_5 : decode cX1_putAside 5 = .ok (.iconst 1, 1) := by decide +kernel
theorem dX1_putAside_6 : decode cX1_putAside 6 = .ok (.iadd, 1) := by decide +kernel
theorem dX1_putAside_7 : decode cX1_putAside 7 = .ok (.putfield 137, 3) := by decide +kernel
theorem dX1_putAside_10 : decode cX1_putAside 10 = .ok (.aload_n 0, 1) := by decide +kernel
theorem dX1_putAside_11 : decode cX1_putAside 11 = .ok (.iload_n 1, 1) := by decide +kernel
theorem dX1_putAside_12 : decode cX1_putAside 12 = .ok (.putfield 140, 3) := by decide +kernel
theorem dX1_putAside_15 : decode cX1_putAside 15 = .ok (.aload_n 0, 1) := by decide +kernel
theorem dX1_putAside_16 : decode cX1_putAside 16 = .ok (.iload_n 2, 1) := by decide +kernel
theorem dX1_putAside_17 : decode cX1_putAside 17 = .ok (.putfield 143, 3) := by decide +kernel
theorem dX1_putAside_20 : decode cX1_putAside 20 = .ok (.return_, 1) := by decide +kernel
theorem dX1_requireWeight_0 : decode cX1_requireWeight 0 = .ok (.iload_n 0, 1) := by decide +kernel
theorem dX1_requireWeight_1 : decode cX1_requireWeight 1 = .ok (.ifCond .lt 9, 3) := by decide +kernel
theorem dX1_requireWeight_4 : decode cX1_requireWeight 4 = .ok (.iload_n 0, 1) := by decide +kernel
theorem dX1_requireWeight_5 : decode cX1_requireWeight 5 = .ok (.ldc 154, 2) := by decide +kernel
theorem dX1_requireWeight_7 : decode cX1_requireWeight 7 = .ok (.if_icmp .le 13, 3) := by decide +kernel
theorem dX1_requireWeight_10 : decode cX1_requireWeight 10 = .ok (.new 20, 3) := by decide +kernel
theorem dX1_requireWeight_13 : decode cX1_requireWeight 13 = .ok (.dup, 1) := by decide +kernel
theorem dX1_requireWeight_14 : decode cX1_requireWeight 14 = .ok (.ldc 155, 2) := by decide +kernel
theorem dX1_requireWeight_16 : decode cX1_requireWeight 16 = .ok (.invokespecial 24, 3) := by decide +kernel
theorem dX1_requireWeight_19 : decode cX1_requireWeight 19 = .ok (.athrow, 1) := by decide +kernel
theorem dX1_requireWeight_20 : decode cX1_requireWeight 20 = .ok (.return_, 1) := by decide +kernel
theorem dX1_requireGirth_0 : decode cX1_requireGirth 0 = .ok (.iload_n 0, 1) := by decide +kernel
theorem dX1_requireGirth_1 : decode cX1_requireGirth 1 = .ok (.ifCond .lt 10, 3) := by decide +kernel
theorem dX1_requireGirth_4 : decode cX1_requireGirth 4 = .ok (.iload_n 0, 1) := by decide +kernel
theorem dX1_requireGirth_5 : decode cX1_requireGirth 5 = .ok (.sipush 16000, 3) := by decide +kernel
theorem dX1_requireGirth_8 : decode cX1_requireGirth 8 = .ok (.if_icmp .le 13, 3) := by decide +kernel
theorem dX1_requireGirth_11 : decode cX1_requireGirth 11 = .ok (.new 20, 3) := by decide +kernel
theorem dX1_requireGirth_14 : decode cX1_requireGirth 14 = .ok (.dup, 1) := by decide +kernel
theorem dX1_requireGirth_15 : decode cX1_requireGirth 15 = .ok (.ldc 157, 2) := by decide +kernel
theorem dX1_requireGirth_17 : decode cX1_requireGirth 17 = .ok (.invokespecial 24, 3) := by decide +kernel
theorem dX1_requireGirth_20 : decode cX1_requireGirth 20 = .ok (.athrow, 1) := by decide +kernel
theorem dX1_requireGirth_21 : decode cX1_requireGirth 21 = .ok (.return_, 1) := by decide +kernel
theorem dX1_requirePlace_0 : decode cX1_requirePlace 0 = .ok (.iload_n 1, 1) := by decide +kernel
theorem dX1_requirePlace_1 : decode cX1_requirePlace 1 = .ok (.ifCond .lt 11, 3) := by decide +kernel
theorem dX1_requirePlace_4 : decode cX1_requirePlace 4 = .ok (.iload_n 1, 1) := by decide +kernel
theorem dX1_requirePlace_5 : decode cX1_requirePlace 5 = .ok (.aload_n 0, 1) := by decide +kernel
theorem dX1_requirePlace_6 : decode cX1_requirePlace 6 = .ok (.getfield 27, 3) := by decide +kernel
theorem dX1_requirePlace_9 : decode cX1_requirePlace 9 = .ok (.if_icmp .lt 13, 3) := by decide +kernel
theorem dX1_requirePlace_12 : decode cX1_requirePlace 12 = .ok (.new 159, 3) := by decide +kernel
theorem dX1_requirePlace_15 : decode cX1_requirePlace 15 = .ok (.dup, 1) := by decide +kernel
theorem dX1_requirePlace_16 : decode cX1_requirePlace 16 = .ok (.ldc 161, 2) := by decide +kernel
theorem dX1_requirePlace_18 : decode cX1_requirePlace 18 = .ok (.invokespecial 163, 3) := by decide +kernel
theorem dX1_requirePlace_21 : decode cX1_requirePlace 21 = .ok (.athrow, 1) := by decide +kernel
theorem dX1_requirePlace_22 : decode cX1_requirePlace 22 = .ok (.return_, 1) := by decide +kernel
theorem dX1_oneIf_0 : decode cX1_oneIf 0 = .ok (.iload_n 0, 1) := by decide +kernel
theorem dX1_oneIf_1 : decode cX1_oneIf 1 = .ok (.ifCond .eq 7, 3) := by decide +kernel
theorem dX1_oneIf_4 : decode cX1_oneIf 4 = .ok (.iconst 1, 1) := by decide +kernel
theorem dX1_oneIf_5 : decode cX1_oneIf 5 = .ok (.goto 4, 3) := by decide +kernel
theorem dX1_oneIf_8 : decode cX1_oneIf 8 = .ok (.iconst 0, 1) := by decide +kernel
theorem dX1_oneIf_9 : decode cX1_oneIf 9 = .ok (.ireturn, 1) := by decide +kernel
theorem dX1_signsBetween_0 : decode cX1_signsBetween 0 = .ok (.iload_n 0, 1) := by decide +kernel
theorem dX1_signsBetween_1 : decode cX1_signsBetween 1 = .ok (.ifCond .eq 7, 3) := by decide +kernel
theorem dX1_signsBetween_4 : decode cX1_signsBetween 4 = .ok (.iload_n 1, 1) := by decide +kernel
theorem dX1_signsBetween_5 : decode cX1_signsBetween 5 = .ok (.ifCond .ne 6, 3) := by decide +kernel
theorem dX1_signsBetween_8 : decode cX1_signsBetween 8 = .ok (.bipush 32, 2) := by decide +kernel
theorem dX1_signsBetween_10 : decode cX1_signsBetween 10 = .ok (.ireturn, 1) := by decide +kernel
theorem dX1_signsBetween_11 : decode cX1_signsBetween 11 = .ok (.iload_n 0, 1) := by decide +kernel
theorem dX1_signsBetween_12 : decode cX1_signsBetween 12 = .ok (.iload_n 1, 1) := by decide +kernel
theorem dX1_signsBetween_13 : decode cX1_signsBetween 13 = .ok (.if_icmp .ge 6, 3) := by decide +kernel
theorem dX1_signsBetween_16 : decode cX1_signsBetween 16 = .ok (.bipush 35, 2) := by decide +kernel
theorem dX1_signsBetween_18 : decode cX1_signsBetween 18 = .ok (.ireturn, 1) := by decide +kernel
theorem dX1_signsBetween_19 : decode cX1_signsBetween 19 = .ok (.iload_n 0, 1) := by decide +kernel
theorem dX1_signsBetween_20 : decode cX1_signsBetween 20 = .ok (.iload_n 1, 1) := by decide +kernel
theorem dX1_signsBetween_21 : decode cX1_signsBetween 21 = .ok (.if_icmp .le 6, 3) := by decide +kernel
theorem dX1_signsBetween_24 : decode cX1_signsBetween 24 = .ok (.bipush 44, 2) := by decide +kernel
theorem dX1_signsBetween_26 : decode cX1_signsBetween 26 = .ok (.ireturn, 1) := by decide +kernel
theorem dX1_signsBetween_27 : decode cX1_signsBetween 27 = .ok (.bipush 26, 2) := by decide +kernel
theorem dX1_signsBetween_29 : decode cX1_signsBetween 29 = .ok (.ireturn, 1) := by decide +kernel
set_option maxRecDepth 20000 in
theorem ggX1_holds_X1_signsBetween : GoodIn wsX1_holds wsX1_signsBetween := goodIn_r _ [4] (by decide +kernel) (by decide +kernel)
set_option maxRecDepth 20000 in
theorem gX1_holds_X1_signsBetween : GoodIn wsX1_holds (va_wsS RX1 83 yX1_signsBetween wsX1_signsBetween) := goodIn_app (goodIn_of _ (by decide +kernel)) ggX1_holds_X1_signsBetween
theorem dX1_holds_0 : decode cX1_holds 0 = .ok (.iload_n 0, 1) := by decide +kernel
theorem dX1_holds_1 : decode cX1_holds 1 = .ok (.iload_n 2, 1) := by decide +kernel
theorem dX1_holds_2 : decode cX1_holds 2 = .ok (.invokestatic 83, 3) := by decide +kernel
theorem dX1_holds_5 : decode cX1_holds 5 = .ok (.iload_n 1, 1) := by decide +kernel
theorem dX1_holds_6 : decode cX1_holds 6 = .ok (.iand, 1) := by decide +kernel
theorem dX1_holds_7 : decode cX1_holds 7 = .ok (.ifCond .eq 7, 3) := by decide +kernel
theorem dX1_holds_10 : decode cX1_holds 10 = .ok (.iconst 1, 1) := by decide +kernel
theorem dX1_holds_11 : decode cX1_holds 11 = .ok (.goto 4, 3) := by decide +kernel
theorem dX1_holds_14 : decode cX1_holds 14 = .ok (.iconst 0, 1) := by decide +kernel
theorem dX1_holds_15 : decode cX1_holds 15 = .ok (.ireturn, 1) := by decide +kernel
theorem dX2_init_0 : decode cX2_init 0 = .ok (.aload_n 0, 1) := by decide +kernel
theorem dX2_init_1 : decode cX2_init 1 = .ok (.invokespecial 1, 3) := by decide +kernel
theorem dX2_init_4 : decode cX2_init 4 = .ok (.aload_n 0, 1) := by decide +kernel
theorem dX2_init_5 : decode cX2_init 5 = .ok (.bipush 96, 2) := by decide +kernel
theorem dX2_init_7 : decode cX2_init 7 = .ok (.newarray .int, 2) := by decide +kernel
theorem dX2_init_9 : decode cX2_init 9 = .ok (.putfield 7, 3) := by decide +kernel
theorem dX2_init_12 : decode cX2_init 12 = .ok (.aload_n 0, 1) := by decide +kernel
theorem dX2_init_13 : decode cX2_init 13 = .ok (.bipush 96, 2) := by decide +kernel
theorem dX2_init_15 : decode cX2_init 15 = .ok (.newarray .int, 2) := by decide +kernel
theorem dX2_init_17 : decode cX2_init 17 = .ok (.putfield 13, 3) := by decide +kernel
theorem dX2_init_20 : decode cX2_init 20 = .ok (.aload_n 0, 1) := by decide +kernel
theorem dX2_init_21 : decode cX2_init 21 = .ok (.bipush 96, 2) := by decide +kernel
theorem dX2_init_23 : decode cX2_init 23 = .ok (.newarray .int, 2) := by decide +kernel
theorem dX2_init_25 : decode cX2_init 25 = .ok (.putfield 16, 3) := by decide +kernel
theorem dX2_init_28 : decode cX2_init 28 = .ok (.aload_n 0, 1) := by decide +kernel
theorem dX2_init_29 : decode cX2_init 29 = .ok (.bipush 96, 2) := by decide +kernel
theorem dX2_init_31 : decode cX2_init 31 = .ok (.newarray .int, 2) := by decide +kernel
theorem dX2_init_33 : decode cX2_init 33 = .ok (.putfield 19, 3) := by decide +kernel
theorem dX2_init_36 : decode cX2_init 36 = .ok (.aload_n 0, 1) := by decide +kernel
theorem dX2_init_37 : decode cX2_init 37 = .ok (.bipush 8, 2) := by decide +kernel
theorem dX2_init_39 : decode cX2_init 39 = .ok (.newarray .int, 2) := by decide +kernel
theorem dX2_init_41 : decode cX2_init 41 = .ok (.putfield 22, 3) := by decide +kernel
theorem dX2_init_44 : decode cX2_init 44 = .ok (.aload_n 0, 1) := by decide +kernel
theorem dX2_init_45 : decode cX2_init 45 = .ok (.bipush 8, 2) := by decide +kernel
theorem dX2_init_47 : decode cX2_init 47 = .ok (.newarray .int, 2) := by decide +kernel
theorem dX2_init_49 : decode cX2_init 49 = .ok (.putfield 25, 3) := by decide +kernel
theorem dX2_init_52 : decode cX2_init 52 = .ok (.aload_n 0, 1) := by decide +kernel
theorem dX2_init_53 : decode cX2_init 53 = .ok (.bipush 8, 2) := by decide +kernel
theorem dX2_init_55 : decode cX2_init 55 = .ok (.newarray .int, 2) := by decide +kernel
theorem dX2_init_57 : decode cX2_init 57 = .ok (.putfield 28, 3) := by decide +kernel
theorem dX2_init_60 : decode cX2_init 60 = .ok (.aload_n 0, 1) := by decide +kernel
theorem dX2_init_61 : decode cX2_init 61 = .ok (.bipush 8, 2) := by decide +kernel
theorem dX2_init_63 : decode cX2_init 63 = .ok (.newarray .int, 2) := by decide +kernel
theorem dX2_init_65 : decode cX2_init 65 = .ok (.putfield 31, 3) := by decide +kernel
theorem dX2_init_68 : decode cX2_init 68 = .ok (.aload_n 0, 1) := by decide +kernel
theorem dX2_init_69 : decode cX2_init 69 = .ok (.bipush 8, 2) := by decide +kernel
theorem dX2_init_71 : decode cX2_init 71 = .ok (.newarray .boolean, 2) := by decide +kernel
theorem dX2_init_73 : decode cX2_init 73 = .ok (.putfield 34, 3) := by decide +kernel
theorem dX2_init_76 : decode cX2_init 76 = .ok (.iconst 0, 1) := by decide +kernel
theorem dX2_init_77 : decode cX2_init 77 = .ok (.istore_n 1, 1) := by decide +kernel
theorem dX2_init_78 : decode cX2_init 78 = .ok (.iload_n 1, 1) := by decide +kernel
theorem dX2_init_79 : decode cX2_init 79 = .ok (.bipush 96, 2) := by decide +kernel
theorem dX2_init_81 : decode cX2_init 81 = .ok (.if_icmp .ge 16, 3) := by decide +kernel
theorem dX2_init_84 : decode cX2_init 84 = .ok (.aload_n 0, 1) := by decide +kernel
theorem dX2_init_85 : decode cX2_init 85 = .ok (.getfield 7, 3) := by decide +kernel
theorem dX2_init_88 : decode cX2_init 88 = .ok (.iload_n 1, 1) := by decide +kernel
theorem dX2_init_89 : decode cX2_init 89 = .ok (.iconst (-1), 1) := by decide +kernel
theorem dX2_init_90 : decode cX2_init 90 = .ok (.iastore, 1) := by decide +kernel
theorem dX2_init_91 : decode cX2_init 91 = .ok (.iinc 1 1, 3) := by decide +kernel
theorem dX2_init_94 : decode cX2_init 94 = .ok (.goto (-16), 3) := by decide +kernel
theorem dX2_init_97 : decode cX2_init 97 = .ok (.return_, 1) := by decide +kernel
theorem dX2_thrown_0 : decode cX2_thrown 0 = .ok (.aload_n 0, 1) := by decide +kernel
theorem dX2_thrown_1 : decode cX2_thrown 1 = .ok (.getfield 38, 3) := by decide +kernel
theorem dX2_thrown_4 : decode cX2_thrown 4 = .ok (.ireturn, 1) := by decide +kernel
theorem dX2_isWithin_0 : decode cX2_isWithin 0 = .ok (.iload_n 0, 1) := by decide +kernel
theorem dX2_isWithin_1 : decode cX2_isWithin 1 = .ok (.ifCond .lt 12, 3) := by decide +kernel
theorem dX2_isWithin_4 : decode cX2_isWithin 4 = .ok (.iload_n 0, 1) := by decide +kernel
theorem dX2_isWithin_5 : decode cX2_isWithin 5 = .ok (.iload_n 1, 1) := by decide +kernel
theorem dX2_isWithin_6 : decode cX2_isWithin 6 = .ok (.if_icmp .gt 7, 3) := by decide +kernel
theorem dX2_isWithin_9 : decode cX2_isWithin 9 = .ok (.iconst 1, 1) := by decide +kernel
theorem dX2_isWithin_10 : decode cX2_isWithin 10 = .ok (.goto 4, 3) := by decide +kernel
theorem dX2_isWithin_13 : decode cX2_isWithin 13 = .ok (.iconst 0, 1) := by decide +kernel
theorem dX2_isWithin_14 : decode cX2_isWithin 14 = .ok (.ireturn, 1) := by decide +kernel
set_option maxRecDepth 20000 in
theorem ggX2_isChute_X2_isWithin : GoodIn wsX2_isChute wsX2_isWithin := goodIn_r _ [4] (by decide +kernel) (by decide +kernel)
set_option maxRecDepth 20000 in
theorem gX2_isChute_X2_isWithin : GoodIn wsX2_isChute (va_wsS RX2 42 yX2_isWithin wsX2_isWithin) := goodIn_app (goodIn_of _ (by decide +kernel)) ggX2_isChute_X2_isWithin
theorem dX2_isChute_0 : decode cX2_isChute 0 = .ok (.iload_n 0, 1) := by decide +kernel
theorem dX2_isChute_1 : decode cX2_isChute 1 = .ok (.bipush 7, 2) := by decide +kernel
theorem dX2_isChute_3 : decode cX2_isChute 3 = .ok (.invokestatic 42, 3) := by decide +kernel
theorem dX2_isChute_6 : decode cX2_isChute 6 = .ok (.ireturn, 1) := by decide +kernel
set_option maxRecDepth 20000 in
theorem ggX2_isParcel_X2_isWithin : GoodIn wsX2_isParcel wsX2_isWithin := goodIn_r _ [5] (by decide +kernel) (by decide +kernel)
set_option maxRecDepth 20000 in
theorem gX2_isParcel_X2_isWithin : GoodIn wsX2_isParcel (va_wsS RX2 42 yX2_isWithin wsX2_isWithin) := goodIn_app (goodIn_of _ (by decide +kernel)) ggX2_isParcel_X2_isWithin
theorem dX2_isParcel_0 : decode cX2_isParcel 0 = .ok (.iload_n 0, 1) := by decide +kernel
theorem dX2_isParcel_1 : decode cX2_isParcel 1 = .ok (.ldc 46, 2) := by decide +kernel
theorem dX2_isParcel_3 : decode cX2_isParcel 3 = .ok (.invokestatic 42, 3) := by decide +kernel
theorem dX2_isParcel_6 : decode cX2_isParcel 6 = .ok (.ifCond .eq 17, 3) := by decide +kernel
theorem dX2_isParcel_9 : decode cX2_isParcel 9 = .ok (.iload_n 1, 1) := by decide +kernel
theorem dX2_isParcel_10 : decode cX2_isParcel 10 = .ok (.sipush 16000, 3) := by decide +kernel
theorem dX2_isParcel_13 : decode cX2_isParcel 13 = .ok (.invokestatic 42, 3) := by decide +kernel
theorem dX2_isParcel_16 : decode cX2_isParcel 16 = .ok (.ifCond .eq 7, 3) := by decide +kernel
theorem dX2_isParcel_19 : decode cX2_isParcel 19 = .ok (.iconst 1, 1) := by decide +kernel
theorem dX2_isParcel_20 : decode cX2_isParcel 20 = .ok (.goto 4, 3) := by decide +kernel
theorem dX2_isParcel_23 : decode cX2_isParcel 23 = .ok (.iconst 0, 1) := by decide +kernel
theorem dX2_isParcel_24 : decode cX2_isParcel 24 = .ok (.ireturn, 1) := by decide +kernel
theorem dX2_signsOf_0 : decode cX2_signsOf 0 = .ok (.iload_n 0, 1) := by decide +kernel
theorem dX2_signsOf_1 : decode cX2_signsOf 1 = .ok (.ifCond .eq 7, 3) := by decide +kernel
theorem dX2_signsOf_4 : decode cX2_signsOf 4 = .ok (.iload_n 1, 1) := by decide +kernel
theorem dX2_signsOf_5 : decode cX2_signsOf 5 = .ok (.ifCond .ne 6, 3) := by decide +kernel
