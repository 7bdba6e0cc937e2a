theorem dX12_init_0 : decode cX12_init 0 = .ok (.aload_n 0, 1) := by decide +kernel
theorem dX12_init_1 : decode cX12_init 1 = .ok (.invokespecial 1, 3) := by decide +kernel
theorem dX12_init_4 : decode cX12_init 4 = .ok (.aload_n 0, 1) := by decide +kernel
theorem dX12_init_5 : decode cX12_init 5 = .ok (.bipush 12, 2) := by decide +kernel
theorem dX12_init_7 : decode cX12_init 7 = .ok (.putfield 7, 3) := by decide +kernel
theorem dX12_init_10 : decode cX12_init 10 = .ok (.aload_n 0, 1) := by decide +kernel
theorem dX12_init_11 : decode cX12_init 11 = .ok (.bipush 80, 2) := by decide +kernel
theorem dX12_init_13 : decode cX12_init 13 = .ok (.newarray .int, 2) := by decide +kernel
theorem dX12_init_15 : decode cX12_init 15 = .ok (.putfield 13, 3) := by decide +kernel
theorem dX12_init_18 : decode cX12_init 18 = .ok (.aload_n 0, 1) := by decide +kernel
theorem dX12_init_19 : decode cX12_init 19 = .ok (.bipush 60, 2) := by decide +kernel
theorem dX12_init_21 : decode cX12_init 21 = .ok (.newarray .int, 2) := by decide +kernel
theorem dX12_init_23 : decode cX12_init 23 = .ok (.putfield 17, 3) := by decide +kernel
theorem dX12_init_26 : decode cX12_init 26 = .ok (.aload_n 0, 1) := by decide +kernel
theorem dX12_init_27 : decode cX12_init 27 = .ok (.sipush 480, 3) := by decide +kernel
theorem dX12_init_30 : decode cX12_init 30 = .ok (.newarray .int, 2) := by decide +kernel
theorem dX12_init_32 : decode cX12_init 32 = .ok (.putfield 20, 3) := by decide +kernel
theorem dX12_init_35 : decode cX12_init 35 = .ok (.aload_n 0, 1) := by decide +kernel
theorem dX12_init_36 : decode cX12_init 36 = .ok (.bipush 60, 2) := by decide +kernel
theorem dX12_init_38 : decode cX12_init 38 = .ok (.newarray .int, 2) := by decide +kernel
theorem dX12_init_40 : decode cX12_init 40 = .ok (.putfield 23, 3) := by decide +kernel
theorem dX12_init_43 : decode cX12_init 43 = .ok (.aload_n 0, 1) := by decide +kernel
theorem dX12_init_44 : decode cX12_init 44 = .ok (.bipush 60, 2) := by decide +kernel
theorem dX12_init_46 : decode cX12_init 46 = .ok (.newarray .boolean, 2) := by decide +kernel
theorem dX12_init_48 : decode cX12_init 48 = .ok (.putfield 26, 3) := by decide +kernel
theorem dX12_init_51 : decode cX12_init 51 = .ok (.aload_n 0, 1) := by decide +kernel
theorem dX12_init_52 : decode cX12_init 52 = .ok (.bipush 60, 2) := by decide +kernel
theorem dX12_init_54 : decode cX12_init 54 = .ok (.newarray .boolean, 2) := by decide +kernel
theorem dX12_init_56 : decode cX12_init 56 = .ok (.putfield 30, 3) := by decide +kernel
theorem dX12_init_59 : decode cX12_init 59 = .ok (.aload_n 0, 1) := by decide +kernel
theorem dX12_init_60 : decode cX12_init 60 = .ok (.bipush 6, 2) := by decide +kernel
theorem dX12_init_62 : decode cX12_init 62 = .ok (.newarray .int, 2) := by decide +kernel
theorem dX12_init_64 : decode cX12_init 64 = .ok (.putfield 33, 3) := by decide +kernel
theorem dX12_init_67 : decode cX12_init 67 = .ok (.aload_n 0, 1) := by decide +kernel
theorem dX12_init_68 : decode cX12_init 68 = .ok (.bipush 6, 2) := by decide +kernel
theorem dX12_init_70 : decode cX12_init 70 = .ok (.newarray .int, 2) := by decide +kernel
theorem dX12_init_72 : decode cX12_init 72 = .ok (.putfield 36, 3) := by decide +kernel
theorem dX12_init_75 : decode cX12_init 75 = .ok (.aload_n 0, 1) := by decide +kernel
theorem dX12_init_76 : decode cX12_init 76 = .ok (.bipush 13, 2) := by decide +kernel
theorem dX12_init_78 : decode cX12_init 78 = .ok (.newarray .int, 2) := by decide +kernel
theorem dX12_init_80 : decode cX12_init 80 = .ok (.putfield 39, 3) := by decide +kernel
theorem dX12_init_83 : decode cX12_init 83 = .ok (.aload_n 0, 1) := by decide +kernel
theorem dX12_init_84 : decode cX12_init 84 = .ok (.bipush 78, 2) := by decide +kernel
theorem dX12_init_86 : decode cX12_init 86 = .ok (.newarray .int, 2) := by decide +kernel
theorem dX12_init_88 : decode cX12_init 88 = .ok (.putfield 42, 3) := by decide +kernel
theorem dX12_init_91 : decode cX12_init 91 = .ok (.aload_n 0, 1) := by decide +kernel
theorem dX12_init_92 : decode cX12_init 92 = .ok (.bipush 78, 2) := by decide +kernel
theorem dX12_init_94 : decode cX12_init 94 = .ok (.newarray .int, 2) := by decide +kernel
theorem dX12_init_96 : decode cX12_init 96 = .ok (.putfield 45, 3) := by decide +kernel
theorem dX12_init_99 : decode cX12_init 99 = .ok (.aload_n 0, 1) := by decide +kernel
theorem dX12_init_100 : decode cX12_init 100 = .ok (.bipush 78, 2) := by decide +kernel
theorem dX12_init_102 : decode cX12_init 102 = .ok (.newarray .int, 2) := by decide +kernel
theorem dX12_init_104 : decode cX12_init 104 = .ok (.putfield 48, 3) := by decide +kernel
theorem dX12_init_107 : decode cX12_init 107 = .ok (.aload_n 0, 1) := by decide +kernel
theorem dX12_init_108 : decode cX12_init 108 = .ok (.bipush 78, 2) := by decide +kernel
theorem dX12_init_110 : decode cX12_init 110 = .ok (.newarray .int, 2) := by decide +kernel
theorem dX12_init_112 : decode cX12_init 112 = .ok (.putfield 51, 3) := by decide +kernel
theorem dX12_init_115 : decode cX12_init 115 = .ok (.aload_n 0, 1) := by decide +kernel
theorem dX12_init_116 : decode cX12_init 116 = .ok (.bipush 80, 2) := by decide +kernel
theorem dX12_init_118 : decode cX12_init 118 = .ok (.newarray .int, 2) := by decide +kernel
theorem dX12_init_120 : decode cX12_init 120 = .ok (.putfield 54, 3) := by decide +kernel
theorem dX12_init_123 : decode cX12_init 123 = .ok (.aload_n 0, 1) := by decide +kernel
theorem dX12_init_124 : decode cX12_init 124 = .ok (.bipush 80, 2) := by decide +kernel
theorem dX12_init_126 : decode cX12_init 126 = .ok (.newarray .int, 2) := by decide +kernel
theorem dX12_init_128 : decode cX12_init 128 = .ok (.putfield 57, 3) := by decide +kernel
theorem dX12_init_131 : decode cX12_init 131 = .ok (.aload_n 0, 1) := by decide +kernel
theorem dX12_init_132 : decode cX12_init 132 = .ok (.bipush 80, 2) := by decide +kernel
theorem dX12_init_134 : decode cX12_init 134 = .ok (.newarray .int, 2) := by decide +kernel
theorem dX12_init_136 : decode cX12_init 136 = .ok (.putfield 60, 3) := by decide +kernel
theorem dX12_init_139 : decode cX12_init 139 = .ok (.aload_n 0, 1) := by decide +kernel
theorem dX12_init_140 : decode cX12_init 140 = .ok (.bipush 80, 2) := by decide +kernel
theorem dX12_init_142 : decode cX12_init 142 = .ok (.newarray .int, 2) := by decide +kernel
theorem dX12_init_144 : decode cX12_init 144 = .ok (.putfield 63, 3) := by decide +kernel
theorem dX12_init_147 : decode cX12_init 147 = .ok (.aload_n 0, 1) := by decide +kernel
theorem dX12_init_148 : decode cX12_init 148 = .ok (.bipush 80, 2) := by decide +kernel
theorem dX12_init_150 : decode cX12_init 150 = .ok (.newarray .int, 2) := by decide +kernel
theorem dX12_init_152 : decode cX12_init 152 = .ok (.putfield 66, 3) := by decide +kernel
theorem dX12_init_155 : decode cX12_init 155 = .ok (.aload_n 0, 1) := by decide +kernel
theorem dX12_init_156 : decode cX12_init 156 = .ok (.bipush 60, 2) := by decide +kernel
theorem dX12_init_158 : decode cX12_init 158 = .ok (.newarray .int, 2) := by decide +kernel
theorem dX12_init_160 : decode cX12_init 160 = .ok (.putfield 69, 3) := by decide +kernel
theorem dX12_init_163 : decode cX12_init 163 = .ok (.aload_n 0, 1) := by decide +kernel
theorem dX12_init_164 : decode cX12_init 164 = .ok (.bipush 60, 2) := by decide +kernel
theorem dX12_init_166 : decode cX12_init 166 = .ok (.newarray .boolean, 2) := by decide +kernel
theorem dX12_init_168 : decode cX12_init 168 = .ok (.putfield 72, 3) := by decide +kernel
theorem dX12_init_171 : decode cX12_init 171 = .ok (.aload_n 0, 1) := by decide +kernel
theorem dX12_init_172 : decode cX12_init 172 = .ok (.bipush 8, 2) := by decide +kernel
theorem dX12_init_174 : decode cX12_init 174 = .ok (.newarray .int, 2) := by decide +kernel
theorem dX12_init_176 : decode cX12_init 176 = .ok (.putfield 75, 3) := by decide +kernel
theorem dX12_init_179 : decode cX12_init 179 = .ok (.aload_n 0, 1) := by decide +kernel
theorem dX12_init_180 : decode cX12_init 180 = .ok (.bipush 8, 2) := by decide +kernel
theorem dX12_init_182 : decode cX12_init 182 = .ok (.newarray .int, 2) := by decide +kernel
theorem dX12_init_184 : decode cX12_init 184 = .ok (.putfield 78, 3) := by decide +kernel
theorem dX12_init_187 : decode cX12_init 187 = .ok (.aload_n 0, 1) := by decide +kernel
theorem dX12_init_188 : decode cX12_init 188 = .ok (.bipush 81, 2) := by decide +kernel
theorem dX12_init_190 : decode cX12_init 190 = .ok (.newarray .int, 2) := by decide +kernel
theorem dX12_init_192 : decode cX12_init 192 = .ok (.putfield 81, 3) := by decide +kernel
theorem dX12_init_195 : decode cX12_init 195 = .ok (.aload_n 0, 1) := by decide +kernel
theorem dX12_init_196 : decode cX12_init 196 = .ok (.bipush 16, 2) := by decide +kernel
theorem dX12_init_198 : decode cX12_init 198 = .ok (.newarray .int, 2) := by decide +kernel
theorem dX12_init_200 : decode cX12_init 200 = .ok (.putfield 84, 3) := by decide +kernel
theorem dX12_init_203 : decode cX12_init 203 = .ok (.aload_n 0, 1) := by decide +kernel
theorem dX12_init_204 : decode cX12_init 204 = .ok (.iconst 4, 1) := by decide +kernel
theorem dX12_init_205 : decode cX12_init 205 = .ok (.newarray .int, 2) := by decide +kernel
theorem dX12_init_207 : decode cX12_init 207 = .ok (.putfield 87, 3) := by decide +kernel
theorem dX12_init_210 : decode cX12_init 210 = .ok (.aload_n 0, 1) := by decide +kernel
theorem dX12_init_211 : decode cX12_init 211 = .ok (.iconst 4, 1) := by decide +kernel
theorem dX12_init_212 : decode cX12_init 212 = .ok (.newarray .int, 2) := by decide +kernel
theorem dX12_init_214 : decode cX12_init 214 = .ok (.putfield 90, 3) := by decide +kernel
theorem dX12_init_217 : decode cX12_init 217 = .ok (.aload_n 0, 1) := by decide +kernel
theorem dX12_init_218 : decode cX12_init 218 = .ok (.iconst 4, 1) := by decide +kernel
theorem dX12_init_219 : decode cX12_init 219 = .ok (.newarray .int, 2) := by decide +kernel
theorem dX12_init_221 : decode cX12_init 221 = .ok (.putfield 93, 3) := by decide +kernel
theorem dX12_init_224 : decode cX12_init 224 = .ok (.aload_n 0, 1) := by decide +kernel
theorem dX12_init_225 : decode cX12_init 225 = .ok (.bipush 8, 2) := by decide +kernel
theorem dX12_init_227 : decode cX12_init 227 = .ok (.newarray .int, 2) := by decide +kernel
theorem dX12_init_229 : decode cX12_init 229 = .ok (.putfield 96, 3) := by decide +kernel
theorem dX12_init_232 : decode cX12_init 232 = .ok (.aload_n 0, 1) := by decide +kernel
theorem dX12_init_233 : decode cX12_init 233 = .ok (.bipush 6, 2) := by decide +kernel
theorem dX12_init_235 : decode cX12_init 235 = .ok (.newarray .int, 2) := by decide +kernel
theorem dX12_init_237 : decode cX12_init 237 = .ok (.putfield 99, 3) := by decide +kernel
theorem dX12_init_240 : decode cX12_init 240 = .ok (.aload_n 0, 1) := by decide +kernel
theorem dX12_init_241 : decode cX12_init 241 = .ok (.bipush 9, 2) := by decide +kernel
theorem dX12_init_243 : decode cX12_init 243 = .ok (.newarray .int, 2) := by decide +kernel
theorem dX12_init_245 : decode cX12_init 245 = .ok (.putfield 102, 3) := by decide +kernel
theorem dX12_init_248 : decode cX12_init 248 = .ok (.aload_n 0, 1) := by decide +kernel
theorem dX12_init_249 : decode cX12_init 249 = .ok (.bipush 9, 2) := by decide +kernel
theorem dX12_init_251 : decode cX12_init 251 = .ok (.newarray .int, 2) := by decide +kernel
theorem dX12_init_253 : decode cX12_init 253 = .ok (.putfield 105, 3) := by decide +kernel
theorem dX12_init_256 : decode cX12_init 256 = .ok (.aload_n 0, 1) := by decide +kernel
theorem dX12_init_257 : decode cX12_init 257 = .ok (.bipush 60, 2) := by decide +kernel
theorem dX12_init_259 : decode cX12_init 259 = .ok (.newarray .int, 2) := by decide +kernel
theorem dX12_init_261 : decode cX12_init 261 = .ok (.putfield 108, 3) := by decide +kernel
theorem dX12_init_264 : decode cX12_init 264 = .ok (.aload_n 0, 1) := by decide +kernel
theorem dX12_init_265 : decode cX12_init 265 = .ok (.bipush 66, 2) := by decide +kernel
theorem dX12_init_267 : decode cX12_init 267 = .ok (.newarray .int, 2) := by decide +kernel
theorem dX12_init_269 : decode cX12_init 269 = .ok (.putfield 111, 3) := by decide +kernel
theorem dX12_init_272 : decode cX12_init 272 = .ok (.aload_n 0, 1) := by decide +kernel
theorem dX12_init_273 : decode cX12_init 273 = .ok (.bipush 20, 2) := by decide +kernel
theorem dX12_init_275 : decode cX12_init 275 = .ok (.newarray .int, 2) := by decide +kernel
theorem dX12_init_277 : decode cX12_init 277 = .ok (.putfield 114, 3) := by decide +kernel
theorem dX12_init_280 : decode cX12_init 280 = .ok (.return_, 1) := by decide +kernel
theorem dX12_in_0 : decode cX12_in 0 = .ok (.iload_n 0, 1) := by decide +kernel
theorem dX12_in_1 : decode cX12_in 1 = .ok (.iload_n 1, 1) := by decide +kernel
theorem dX12_in_2 : decode cX12_in 2 = .ok (.if_icmp .lt 12, 3) := by decide +kernel
theorem dX12_in_5 : decode cX12_in 5 = .ok (.iload_n 0, 1) := by decide +kernel
theorem dX12_in_6 : decode cX12_in 6 = .ok (.iload_n 2, 1) := by decide +kernel
theorem dX12_in_7 : decode cX12_in 7 = .ok (.if_icmp .gt 7, 3) := by decide +kernel
theorem dX12_in_10 : decode cX12_in 10 = .ok (.iconst 1, 1) := by decide +kernel
theorem dX12_in_11 : decode cX12_in 11 = .ok (.goto 4, 3) := by decide +kernel
theorem dX12_in_14 : decode cX12_in 14 = .ok (.iconst 0, 1) := by decide +kernel
theorem dX12_in_15 : decode cX12_in 15 = .ok (.ireturn, 1) := by decide +kernel
theorem dX12_isTongue_0 : decode cX12_isTongue 0 = .ok (.iload_n 1, 1) := by decide +kernel
theorem dX12_isTongue_1 : decode cX12_isTongue 1 = .ok (.iconst 0, 1) := by decide +kernel
theorem dX12_isTongue_2 : decode cX12_isTongue 2 = .ok (.aload_n 0, 1) := by decide +kernel
theorem dX12_isTongue_3 : decode cX12_isTongue 3 = .ok (.getfield 120, 3) := by decide +kernel
theorem dX12_isTongue_6 : decode cX12_isTongue 6 = .ok (.iconst 1, 1) := by decide +kernel
theorem dX12_isTongue_7 : decode cX12_isTongue 7 = .ok (.isub, 1) := by decide +kernel
theorem dX12_isTongue_8 : decode cX12_isTongue 8 = .ok (.invokestatic 123, 3) := by decide +kernel
theorem dX12_isTongue_11 : decode cX12_isTongue 11 = .ok (.ireturn, 1) := by decide +kernel
theorem dX12_isMeaning_0 : decode cX12_isMeaning 0 = .ok (.iload_n 0, 1) := by decide +kernel
theorem dX12_isMeaning_1 : decode cX12_isMeaning 1 = .ok (.iconst 0, 1) := by decide +kernel
theorem dX12_isMeaning_2 : decode cX12_isMeaning 2 = .ok (.bipush 9, 2) := by decide +kernel
theorem dX12_isMeaning_4 : decode cX12_isMeaning 4 = .ok (.invokestatic 123, 3) := by decide +kernel
theorem dX12_isMeaning_7 : decode cX12_isMeaning 7 = .ok (.ireturn, 1) := by decide +kernel
theorem dX12_isLaw_0 : decode cX12_isLaw 0 = .ok (.iload_n 1, 1) := by decide +kernel
theorem dX12_isLaw_1 : decode cX12_isLaw 1 = .ok (.iconst 0, 1) := by decide +kernel
theorem dX12_isLaw_2 : decode cX12_isLaw 2 = .ok (.aload_n 0, 1) := by decide +kernel
theorem dX12_isLaw_3 : decode cX12_isLaw 3 = .ok (.getfield 127, 3) := by decide +kernel
theorem dX12_isLaw_6 : decode cX12_isLaw 6 = .ok (.iconst 1, 1) := by decide +kernel
theorem dX12_isLaw_7 : decode cX12_isLaw 7 = .ok (.isub, 1) := by decide +kernel
theorem dX12_isLaw_8 : decode cX12_isLaw 8 = .ok (.invokestatic 123, 3) := by decide +kernel
theorem dX12_isLaw_11 : decode cX12_isLaw 11 = .ok (.ireturn, 1) := by decide +kernel
theorem dX12_hasWord_0 : decode cX12_hasWord 0 = .ok (.aload_n 0, 1) := by decide +kernel
theorem dX12_hasWord_1 : decode cX12_hasWord 1 = .ok (.iload_n 1, 1) := by decide +kernel
theorem dX12_hasWord_2 : decode cX12_hasWord 2 = .ok (.invokevirtual 130, 3) := by decide +kernel
theorem dX12_hasWord_5 : decode cX12_hasWord 5 = .ok (.ifCond .eq 28, 3) := by decide +kernel
theorem dX12_hasWord_8 : decode cX12_hasWord 8 = .ok (.iload_n 2, 1) := by decide +kernel
theorem dX12_hasWord_9 : decode cX12_hasWord 9 = .ok (.invokestatic 134, 3) := by decide +kernel
theorem dX12_hasWord_12 : decode cX12_hasWord 12 = .ok (.ifCond .eq 21, 3) := by decide +kernel
theorem dX12_hasWord_15 : decode cX12_hasWord 15 = .ok (.aload_n 0, 1) := by decide +kernel
theorem dX12_hasWord_16 : decode cX12_hasWord 16 = .ok (.getfield 17, 3) := by decide +kernel
theorem dX12_hasWord_19 : decode cX12_hasWord 19 = .ok (.bipush 10, 2) := by decide +kernel
theorem dX12_hasWord_21 : decode cX12_hasWord 21 = .ok (.iload_n 1, 1) := by decide +kernel
theorem dX12_hasWord_22 : decode cX12_hasWord 22 = .ok (.imul, 1) := by decide +kernel
theorem dX12_hasWord_23 : decode cX12_hasWord 23 = .ok (.iload_n 2, 1) := by decide +kernel
theorem dX12_hasWord_24 : decode cX12_hasWord 24 = .ok (.iadd, 1) := by decide +kernel
theorem dX12_hasWord_25 : decode cX12_hasWord 25 = .ok (.iaload, 1) := by decide +kernel
theorem dX12_hasWord_26 : decode cX12_hasWord 26 = .ok (.ifCond .le 7, 3) := by decide +kernel
theorem dX12_hasWord_29 : decode cX12_hasWord 29 = .ok (.iconst 1, 1) := by decide +kernel
theorem dX12_hasWord_30 : decode cX12_hasWord 30 = .ok (.goto 4, 3) := by decide +kernel
theorem dX12_hasWord_33 : decode cX12_hasWord 33 = .ok (.iconst 0, 1) := by decide +kernel
theorem dX12_hasWord_34 : decode cX12_hasWord 34 = .ok (.ireturn, 1) := by decide +kernel
theorem dX12_tongue_0 : decode cX12_tongue 0 = .ok (.aload_n 0, 1) := by decide +kernel
theorem dX12_tongue_1 : decode cX12_tongue 1 = .ok (.getfield 120, 3) := by decide +kernel
theorem dX12_tongue_4 : decode cX12_tongue 4 = .ok (.bipush 6, 2) := by decide +kernel
theorem dX12_tongue_6 : decode cX12_tongue 6 = .ok (.if_icmp .ne 6, 3) := by decide +kernel
theorem dX12_tongue_9 : decode cX12_tongue 9 = .ok (.bipush (-4), 2) := by decide +kernel
theorem dX12_tongue_11 : decode cX12_tongue 11 = .ok (.ireturn, 1) := by decide +kernel
theorem dX12_tongue_12 : decode cX12_tongue 12 = .ok (.aload_n 0, 1) := by decide +kernel
theorem dX12_tongue_13 : decode cX12_tongue 13 = .ok (.getfield 33, 3) := by decide +kernel
theorem dX12_tongue_16 : decode cX12_tongue 16 = .ok (.aload_n 0, 1) := by decide +kernel
theorem dX12_tongue_17 : decode cX12_tongue 17 = .ok (.getfield 120, 3) := by decide +kernel
theorem dX12_tongue_20 : decode cX12_tongue 20 = .ok (.iconst (-1), 1) := by decide +kernel
theorem dX12_tongue_21 : decode cX12_tongue 21 = .ok (.iastore, 1) := by decide +kernel
theorem dX12_tongue_22 : decode cX12_tongue 22 = .ok (.aload_n 0, 1) := by decide +kernel
theorem dX12_tongue_23 : decode cX12_tongue 23 = .ok (.dup, 1) := by decide +kernel
theorem dX12_tongue_24 : decode cX12_tongue 24 = .ok (.getfield 120, 3) := by decide +kernel
theorem dX12_tongue_27 : decode cX12_tongue 27 = .ok (.iconst 1, 1) := by decide +kernel
theorem dX12_tongue_28 : decode cX12_tongue 28 = .ok (.iadd, 1) := by decide +kernel
theorem dX12_tongue_29 : decode cX12_tongue 29 = .ok (.putfield 120, 3) := by decide +kernel
theorem dX12_tongue_32 : decode cX12_tongue 32 = .ok (.aload_n 0, 1) := by decide +kernel
theorem dX12_tongue_33 : decode cX12_tongue 33 = .ok (.getfield 120, 3) := by decide +kernel
theorem dX12_tongue_36 : decode cX12_tongue 36 = .ok (.iconst 1, 1) := by decide +kernel
theorem dX12_tongue_37 : decode cX12_tongue 37 = .ok (.isub, 1) := by decide +kernel
theorem dX12_tongue_38 : decode cX12_tongue 38 = .ok (.ireturn, 1) := by decide +kernel
theorem dX12_years_0 : decode cX12_years 0 = .ok (.iload_n 1, 1) := by decide +kernel
theorem dX12_years_1 : decode cX12_years 1 = .ok (.iconst 1, 1) := by decide +kernel
theorem dX12_years_2 : decode cX12_years 2 = .ok (.sipush 500, 3) := by decide +kernel
theorem dX12_years_5 : decode cX12_years 5 = .ok (.invokestatic 123, 3) := by decide +kernel
theorem dX12_years_8 : decode cX12_years 8 = .ok (.ifCond .eq 15, 3) := by decide +kernel
theorem dX12_years_11 : decode cX12_years 11 = .ok (.aload_n 0, 1) := by decide +kernel
theorem dX12_years_12 : decode cX12_years 12 = .ok (.getfield 137, 3) := by decide +kernel
theorem dX12_years_15 : decode cX12_years 15 = .ok (.iload_n 1, 1) := by decide +kernel
theorem dX12_years_16 : decode cX12_years 16 = .ok (.iadd, 1) := by decide +kernel
theorem dX12_years_17 : decode cX12_years 17 = .ok (.sipush 9999, 3) := by decide +kernel
theorem dX12_years_20 : decode cX12_years 20 = .ok (.if_icmp .le 6, 3) := by decide +kernel
theorem dX12_years_23 : decode cX12_years 23 = .ok (.bipush (-2), 2) := by decide +kernel
theorem dX12_years_25 : decode cX12_years 25 = .ok (.ireturn, 1) := by decide +kernel
theorem dX12_years_26 : decode cX12_years 26 = .ok (.aload_n 0, 1) := by decide +kernel
theorem dX12_years_27 : decode cX12_years 27 = .ok (.dup, 1) := by decide +kernel
theorem dX12_years_28 : decode cX12_years 28 = .ok (.getfield 137, 3) := by decide +kernel
theorem dX12_years_31 : decode cX12_years 31 = .ok (.iload_n 1, 1) := by decide +kernel
theorem dX12_years_32 : decode cX12_years 32 = .ok (.iadd, 1) := by decide +kernel
theorem dX12_years_33 : decode cX12_years 33 = .ok (.putfield 137, 3) := by decide +kernel
theorem dX12_years_36 : decode cX12_years 36 = .ok (.aload_n 0, 1) := by decide +kernel
theorem dX12_years_37 : decode cX12_years 37 = .ok (.getfield 137, 3) := by decide +kernel
theorem dX12_years_40 : decode cX12_years 40 = .ok (.ireturn, 1) := by decide +kernel
theorem dX12_feed_0 : decode cX12_feed 0 = .ok (.iload_n 3, 1) := by decide +kernel
theorem dX12_feed_1 : decode cX12_feed 1 = .ok (.iconst 1, 1) := by decide +kernel
theorem dX12_feed_2 : decode cX12_feed 2 = .ok (.bipush 8, 2) := by decide +kernel
theorem dX12_feed_4 : decode cX12_feed 4 = .ok (.invokestatic 123, 3) := by decide +kernel
theorem dX12_feed_7 : decode cX12_feed 7 = .ok (.ifCond .ne 6, 3) := by decide +kernel
theorem dX12_feed_10 : decode cX12_feed 10 = .ok (.bipush (-2), 2) := by decide +kernel
theorem dX12_feed_12 : decode cX12_feed 12 = .ok (.ireturn, 1) := by decide +kernel
theorem dX12_feed_13 : decode cX12_feed 13 = .ok (.aload_n 0, 1) := by decide +kernel
theorem dX12_feed_14 : decode cX12_feed 14 = .ok (.getfield 140, 3) := by decide +kernel
theorem dX12_feed_17 : decode cX12_feed 17 = .ok (.iload_n 3, 1) := by decide +kernel
theorem dX12_feed_18 : decode cX12_feed 18 = .ok (.iadd, 1) := by decide +kernel
theorem dX12_feed_19 : decode cX12_feed 19 = .ok (.bipush 80, 2) := by decide +kernel
theorem dX12_feed_21 : decode cX12_feed 21 = .ok (.if_icmp .le 6, 3) := by decide +kernel
theorem dX12_feed_24 : decode cX12_feed 24 = .ok (.bipush (-4), 2) := by decide +kernel
theorem dX12_feed_26 : decode cX12_feed 26 = .ok (.ireturn, 1) := by decide +kernel
theorem dX12_feed_27 : decode cX12_feed 27 = .ok (.iload_n 3, 1) := by decide +kernel
theorem dX12_feed_28 : decode cX12_feed 28 = .ok (.iconst 1, 1) := by decide +kernel
theorem dX12_feed_29 : decode cX12_feed 29 = .ok (.isub, 1) := by decide +kernel
theorem dX12_feed_30 : decode cX12_feed 30 = .ok (.istore 4, 2) := by decide +kernel
theorem dX12_feed_32 : decode cX12_feed 32 = .ok (.iload 4, 2) := by decide +kernel
theorem dX12_feed_34 : decode cX12_feed 34 = .ok (.ifCond .lt 40, 3) := by decide +kernel
theorem dX12_feed_37 : decode cX12_feed 37 = .ok (.aload_n 0, 1) := by decide +kernel
theorem dX12_feed_38 : decode cX12_feed 38 = .ok (.getfield 13, 3) := by decide +kernel
theorem dX12_feed_41 : decode cX12_feed 41 = .ok (.aload_n 0, 1) := by decide +kernel
theorem dX12_feed_42 : decode cX12_feed 42 = .ok (.getfield 140, 3) := by decide +kernel
theorem dX12_feed_45 : decode cX12_feed 45 = .ok (.lload_n 1, 1) := by decide +kernel
theorem dX12_feed_46 : decode cX12_feed 46 = .ok (.bipush 8, 2) := by decide +kernel
theorem dX12_feed_48 : decode cX12_feed 48 = .ok (.iload 4, 2) := by decide +kernel
theorem dX12_feed_50 : decode cX12_feed 50 = .ok (.imul, 1) := by decide +kernel
theorem dX12_feed_51 : decode cX12_feed 51 = .ok (.lshr, 1) := by decide +kernel
theorem dX12_feed_52 : decode cX12_feed 52 = .ok (.ldc2_w 143, 3) := by decide +kernel
theorem dX12_feed_55 : decode cX12_feed 55 = .ok (.land, 1) := by decide +kernel
theorem dX12_feed_56 : decode cX12_feed 56 = .ok (.l2i, 1) := by decide +kernel
theorem dX12_feed_57 : decode cX12_feed 57 = .ok (.iastore, 1) := by decide +kernel
theorem dX12_feed_58 : decode cX12_feed 58 = .ok (.aload_n 0, 1) := by decide +kernel
theorem dX12_feed_59 : decode cX12_feed 59 = .ok (.dup, 1) := by decide +kernel
theorem dX12_feed_60 : decode cX12_feed 60 = .ok (.getfield 140, 3) := by decide +kernel
theorem dX12_feed_63 : decode cX12_feed 63 = .ok (.iconst 1, 1) := by decide +kernel
theorem dX12_feed_64 : decode cX12_feed 64 = .ok (.iadd, 1) := by decide +kernel
theorem dX12_feed_65 : decode cX12_feed 65 = .ok (.putfield 140, 3) := by decide +kernel
theorem dX12_feed_68 : decode cX12_feed 68 = .ok (.iinc 4 (-1), 3) := by decide +kernel
theorem dX12_feed_71 : decode cX12_feed 71 = .ok (.goto (-39), 3) := by decide +kernel
theorem dX12_feed_74 : decode cX12_feed 74 = .ok (.aload_n 0, 1) := by decide +kernel
theorem dX12_feed_75 : decode cX12_feed 75 = .ok (.getfield 140, 3) := by decide +kernel
theorem dX12_feed_78 : decode cX12_feed 78 = .ok (.ireturn, 1) := by decide +kernel
theorem dX12_here_0 : decode cX12_here 0 = .ok (.aload_n 0, 1) := by decide +kernel
theorem dX12_here_1 : decode cX12_here 1 = .ok (.getfield 145, 3) := by decide +kernel
theorem dX12_here_4 : decode cX12_here 4 = .ok (.aload_n 0, 1) := by decide +kernel
theorem dX12_here_5 : decode cX12_here 5 = .ok (.getfield 148, 3) := by decide +kernel
theorem dX12_here_8 : decode cX12_here 8 = .ok (.if_icmp .ge 15, 3) := by decide +kernel
theorem dX12_here_11 : decode cX12_here 11 = .ok (.aload_n 0, 1) := by decide +kernel
theorem dX12_here_12 : decode cX12_here 12 = .ok (.getfield 13, 3) := by decide +kernel
theorem dX12_here_15 : decode cX12_here 15 = .ok (.aload_n 0, 1) := by decide +kernel
theorem dX12_here_16 : decode cX12_here 16 = .ok (.getfield 145, 3) := by decide +kernel
theorem dX12_here_19 : decode cX12_here 19 = .ok (.iaload, 1) := by decide +kernel
theorem dX12_here_20 : decode cX12_here 20 = .ok (.goto 4, 3) := by decide +kernel
theorem dX12_here_23 : decode cX12_here 23 = .ok (.iconst (-1), 1) := by decide +kernel
theorem dX12_here_24 : decode cX12_here 24 = .ok (.ireturn, 1) := by decide +kernel
theorem dX12_must_0 : decode cX12_must 0 = .ok (.aload_n 0, 1) := by decide +kernel
theorem dX12_must_1 : decode cX12_must 1 = .ok (.aload_n 0, 1) := by decide +kernel
theorem dX12_must_2 : decode cX12_must 2 = .ok (.getfield 151, 3) := by decide +kernel
theorem dX12_must_5 : decode cX12_must 5 = .ok (.ifCond .ne 11, 3) := by decide +kernel
theorem dX12_must_8 : decode cX12_must 8 = .ok (.aload_n 0, 1) := by decide +kernel
theorem dX12_must_9 : decode cX12_must 9 = .ok (.invokevirtual 155, 3) := by decide +kernel
theorem dX12_must_12 : decode cX12_must 12 = .ok (.iload_n 1, 1) := by decide +kernel
theorem dX12_must_13 : decode cX12_must 13 = .ok (.if_icmp .eq 7, 3) := by decide +kernel
theorem dX12_must_16 : decode cX12_must 16 = .ok (.iconst 1, 1) := by decide +kernel
theorem dX12_must_17 : decode cX12_must 17 = .ok (.goto 4, 3) := by decide +kernel
theorem dX12_must_20 : decode cX12_must 20 = .ok (.iconst 0, 1) := by decide +kernel
theorem dX12_must_21 : decode cX12_must 21 = .ok (.putfield 151, 3) := by decide +kernel
theorem dX12_must_24 : decode cX12_must 24 = .ok (.aload_n 0, 1) := by decide +kernel
theorem dX12_must_25 : decode cX12_must 25 = .ok (.dup, 1) := by decide +kernel
theorem dX12_must_26 : decode cX12_must 26 = .ok (.getfield 145, 3) := by decide +kernel
theorem dX12_must_29 : decode cX12_must 29 = .ok (.aload_n 0, 1) := by decide +kernel
theorem dX12_must_30 : decode cX12_must 30 = .ok (.getfield 151, 3) := by decide +kernel
theorem dX12_must_33 : decode cX12_must 33 = .ok (.ifCond .eq 7, 3) := by decide +kernel
theorem dX12_must_36 : decode cX12_must 36 = .ok (.iconst 0, 1) := by decide +kernel
theorem dX12_must_37 : decode cX12_must 37 = .ok (.goto 4, 3) := by decide +kernel
theorem dX12_must_40 : decode cX12_must 40 = .ok (.iconst 1, 1) := by decide +kernel
theorem dX12_must_41 : decode cX12_must 41 = .ok (.iadd, 1) := by decide +kernel
theorem dX12_must_42 : decode cX12_must 42 = .ok (.putfield 145, 3) := by decide +kernel
theorem dX12_must_45 : decode cX12_must 45 = .ok (.return_, 1) := by decide +kernel
theorem dX12_part_0 : decode cX12_part 0 = .ok (.aload_n 0, 1) := by decide +kernel
theorem dX12_part_1 : decode cX12_part 1 = .ok (.invokevirtual 155, 3) := by decide +kernel
theorem dX12_part_4 : decode cX12_part 4 = .ok (.istore_n 1, 1) := by decide +kernel
theorem dX12_part_5 : decode cX12_part 5 = .ok (.iload_n 1, 1) := by decide +kernel
theorem dX12_part_6 : decode cX12_part 6 = .ok (.bipush 97, 2) := by decide +kernel
theorem dX12_part_8 : decode cX12_part 8 = .ok (.bipush 122, 2) := by decide +kernel
theorem dX12_part_10 : decode cX12_part 10 = .ok (.invokestatic 123, 3) := by decide +kernel
theorem dX12_part_13 : decode cX12_part 13 = .ok (.ifCond .eq 10, 3) := by decide +kernel
theorem dX12_part_16 : decode cX12_part 16 = .ok (.iload_n 1, 1) := by decide +kernel
theorem dX12_part_17 : decode cX12_part 17 = .ok (.bipush 96, 2) := by decide +kernel
theorem dX12_part_19 : decode cX12_part 19 = .ok (.isub, 1) := by decide +kernel
theorem dX12_part_20 : decode cX12_part 20 = .ok (.goto 26, 3) := by decide +kernel
theorem dX12_part_23 : decode cX12_part 23 = .ok (.iload_n 1, 1) := by decide +kernel
theorem dX12_part_24 : decode cX12_part 24 = .ok (.bipush 86, 2) := by decide +kernel
theorem dX12_part_26 : decode cX12_part 26 = .ok (.if_icmp .ne 8, 3) := by decide +kernel
theorem dX12_part_29 : decode cX12_part 29 = .ok (.bipush 27, 2) := by decide +kernel
theorem dX12_part_31 : decode cX12_part 31 = .ok (.goto 15, 3) := by decide +kernel
theorem dX12_part_34 : decode cX12_part 34 = .ok (.iload_n 1, 1) := by decide +kernel
theorem dX12_part_35 : decode cX12_part 35 = .ok (.bipush 67, 2) := by decide +kernel
theorem dX12_part_37 : decode cX12_part 37 = .ok (.if_icmp .ne 8, 3) := by decide +kernel
theorem dX12_part_40 : decode cX12_part 40 = .ok (.bipush 28, 2) := by decide +kernel
theorem dX12_part_42 : decode cX12_part 42 = .ok (.goto 4, 3) := by decide +kernel
theorem dX12_part_45 : decode cX12_part 45 = .ok (.iconst 0, 1) := by decide +kernel
theorem dX12_part_46 : decode cX12_part 46 = .ok (.istore_n 2, 1) := by decide +kernel
theorem dX12_part_47 : decode cX12_part 47 = .ok (.aload_n 0, 1) := by decide +kernel
theorem dX12_part_48 : decode cX12_part 48 = .ok (.dup, 1) := by decide +kernel
theorem dX12_part_49 : decode cX12_part 49 = .ok (.getfield 145, 3) := by decide +kernel
theorem dX12_part_52 : decode cX12_part 52 = .ok (.iload_n 2, 1) := by decide +kernel
theorem dX12_part_53 : decode cX12_part 53 = .ok (.ifCond .ne 7, 3) := by decide +kernel
theorem dX12_part_56 : decode cX12_part 56 = .ok (.iconst 0, 1) := by decide +kernel
theorem dX12_part_57 : decode cX12_part 57 = .ok (.goto 4, 3) := by decide +kernel
theorem dX12_part_60 : decode cX12_part 60 = .ok (.iconst 1, 1) := by decide +kernel
theorem dX12_part_61 : decode cX12_part 61 = .ok (.iadd, 1) := by decide +kernel
theorem dX12_part_62 : decode cX12_part 62 = .ok (.putfield 145, 3) := by decide +kernel
theorem dX12_part_65 : decode cX12_part 65 = .ok (.iload_n 2, 1) := by decide +kernel
theorem dX12_part_66 : decode cX12_part 66 = .ok (.ireturn, 1) := by decide +kernel
theorem dX12_side_0 : decode cX12_side 0 = .ok (.aload_n 0, 1) := by decide +kernel
theorem dX12_side_1 : decode cX12_side 1 = .ok (.invokevirtual 155, 3) := by decide +kernel
theorem dX12_side_4 : decode cX12_side 4 = .ok (.bipush 35, 2) := by decide +kernel
theorem dX12_side_6 : decode cX12_side 6 = .ok (.if_icmp .ne 16, 3) := by decide +kernel
theorem dX12_side_9 : decode cX12_side 9 = .ok (.aload_n 0, 1) := by decide +kernel
theorem dX12_side_10 : decode cX12_side 10 = .ok (.dup, 1) := by decide +kernel
theorem dX12_side_11 : decode cX12_side 11 = .ok (.getfield 145, 3) := by decide +kernel
theorem dX12_side_14 : decode cX12_side 14 = .ok (.iconst 1, 1) := by decide +kernel
theorem dX12_side_15 : decode cX12_side 15 = .ok (.iadd, 1) := by decide +kernel
theorem dX12_side_16 : decode cX12_side 16 = .ok (.putfield 145, 3) := by decide +kernel
theorem dX12_side_19 : decode cX12_side 19 = .ok (.bipush 29, 2) := by decide +kernel
theorem dX12_side_21 : decode cX12_side 21 = .ok (.ireturn, 1) := by decide +kernel
theorem dX12_side_22 : decode cX12_side 22 = .ok (.aload_n 0, 1) := by decide +kernel
theorem dX12_side_23 : decode cX12_side 23 = .ok (.invokevirtual 159, 3) := by decide +kernel
theorem dX12_side_26 : decode cX12_side 26 = .ok (.ireturn, 1) := by decide +kernel
theorem dX12_reads_0 : decode cX12_reads 0 = .ok (.aload_n 0, 1) := by decide +kernel
theorem dX12_reads_1 : decode cX12_reads 1 = .ok (.getfield 42, 3) := by decide +kernel
theorem dX12_reads_4 : decode cX12_reads 4 = .ok (.iload_n 1, 1) := by decide +kernel
theorem dX12_reads_5 : decode cX12_reads 5 = .ok (.aload_n 0, 1) := by decide +kernel
theorem dX12_reads_6 : decode cX12_reads 6 = .ok (.invokevirtual 159, 3) := by decide +kernel
theorem dX12_reads_9 : decode cX12_reads 9 = .ok (.iastore, 1) := by decide +kernel
theorem dX12_reads_10 : decode cX12_reads 10 = .ok (.aload_n 0, 1) := by decide +kernel
theorem dX12_reads_11 : decode cX12_reads 11 = .ok (.aload_n 0, 1) := by decide +kernel
theorem dX12_reads_12 : decode cX12_reads 12 = .ok (.getfield 42, 3) := by decide +kernel
theorem dX12_reads_15 : decode cX12_reads 15 = .ok (.iload_n 1, 1) := by decide +kernel
theorem dX12_reads_16 : decode cX12_reads 16 = .ok (.iaload, 1) := by decide +kernel
theorem dX12_reads_17 : decode cX12_reads 17 = .ok (.ifCond .ne 7, 3) := by decide +kernel
theorem dX12_reads_20 : decode cX12_reads 20 = .ok (.iconst 1, 1) := by decide +kernel
theorem dX12_reads_21 : decode cX12_reads 21 = .ok (.goto 4, 3) := by decide +kernel
theorem dX12_reads_24 : decode cX12_reads 24 = .ok (.iconst 0, 1) := by decide +kernel
theorem dX12_reads_25 : decode cX12_reads 25 = .ok (.putfield 151, 3) := by decide +kernel
theorem dX12_reads_28 : decode cX12_reads 28 = .ok (.aload_n 0, 1) := by decide +kernel
theorem dX12_reads_29 : decode cX12_reads 29 = .ok (.bipush 62, 2) := by decide +kernel
theorem dX12_reads_31 : decode cX12_reads 31 = .ok (.invokevirtual 162, 3) := by decide +kernel
theorem dX12_reads_34 : decode cX12_reads 34 = .ok (.aload_n 0, 1) := by decide +kernel
theorem dX12_reads_35 : decode cX12_reads 35 = .ok (.invokevirtual 155, 3) := by decide +kernel
theorem dX12_reads_38 : decode cX12_reads 38 = .ok (.istore_n 2, 1) := by decide +kernel
theorem dX12_reads_39 : decode cX12_reads 39 = .ok (.aload_n 0, 1) := by decide +kernel
theorem dX12_reads_40 : decode cX12_reads 40 = .ok (.aload_n 0, 1) := by decide +kernel
theorem dX12_reads_41 : decode cX12_reads 41 = .ok (.getfield 151, 3) := by decide +kernel
theorem dX12_reads_44 : decode cX12_reads 44 = .ok (.ifCond .ne 20, 3) := by decide +kernel
theorem dX12_reads_47 : decode cX12_reads 47 = .ok (.iload_n 2, 1) := by decide +kernel
theorem dX12_reads_48 : decode cX12_reads 48 = .ok (.bipush 97, 2) := by decide +kernel
theorem dX12_reads_50 : decode cX12_reads 50 = .ok (.bipush 122, 2) := by decide +kernel
theorem dX12_reads_52 : decode cX12_reads 52 = .ok (.invokestatic 123, 3) := by decide +kernel
theorem dX12_reads_55 : decode cX12_reads 55 = .ok (.ifCond .ne 13, 3) := by decide +kernel
theorem dX12_reads_58 : decode cX12_reads 58 = .ok (.iload_n 2, 1) := by decide +kernel
theorem dX12_reads_59 : decode cX12_reads 59 = .ok (.bipush 48, 2) := by decide +kernel
theorem dX12_reads_61 : decode cX12_reads 61 = .ok (.if_icmp .eq 7, 3) := by decide +kernel
theorem dX12_reads_64 : decode cX12_reads 64 = .ok (.iconst 1, 1) := by decide +kernel
theorem dX12_reads_65 : decode cX12_reads 65 = .ok (.goto 4, 3) := by decide +kernel
theorem dX12_reads_68 : decode cX12_reads 68 = .ok (.iconst 0, 1) := by decide +kernel
theorem dX12_reads_69 : decode cX12_reads 69 = .ok (.putfield 151, 3) := by decide +kernel
theorem dX12_reads_72 : decode cX12_reads 72 = .ok (.aload_n 0, 1) := by decide +kernel
theorem dX12_reads_73 : decode cX12_reads 73 = .ok (.getfield 45, 3) := by decide +kernel
theorem dX12_reads_76 : decode cX12_reads 76 = .ok (.iload_n 1, 1) := by decide +kernel
theorem dX12_reads_77 : decode cX12_reads 77 = .ok (.iload_n 2, 1) := by decide +kernel
theorem dX12_reads_78 : decode cX12_reads 78 = .ok (.bipush 48, 2) := by decide +kernel
theorem dX12_reads_80 : decode cX12_reads 80 = .ok (.if_icmp .ne 7, 3) := by decide +kernel
theorem dX12_reads_83 : decode cX12_reads 83 = .ok (.iconst 0, 1) := by decide +kernel
theorem dX12_reads_84 : decode cX12_reads 84 = .ok (.goto 7, 3) := by decide +kernel
theorem dX12_reads_87 : decode cX12_reads 87 = .ok (.iload_n 2, 1) := by decide +kernel
theorem dX12_reads_88 : decode cX12_reads 88 = .ok (.bipush 96, 2) := by decide +kernel
theorem dX12_reads_90 : decode cX12_reads 90 = .ok (.isub, 1) := by decide +kernel
theorem dX12_reads_91 : decode cX12_reads 91 = .ok (.iastore, 1) := by decide +kernel
theorem dX12_reads_92 : decode cX12_reads 92 = .ok (.aload_n 0, 1) := by decide +kernel
theorem dX12_reads_93 : decode cX12_reads 93 = .ok (.dup, 1) := by decide +kernel
theorem dX12_reads_94 : decode cX12_reads 94 = .ok (.getfield 145, 3) := by decide +kernel
theorem dX12_reads_97 : decode cX12_reads 97 = .ok (.aload_n 0, 1) := by decide +kernel
theorem dX12_reads_98 : decode cX12_reads 98 = .ok (.getfield 151, 3) := by decide +kernel
theorem dX12_reads_101 : decode cX12_reads 101 = .ok (.ifCond .eq 7, 3) := by decide +kernel
theorem dX12_reads_104 : decode cX12_reads 104 = .ok (.iconst 0, 1) := by decide +kernel
theorem dX12_reads_105 : decode cX12_reads 105 = .ok (.goto 4, 3) := by decide +kernel
theorem dX12_reads_108 : decode cX12_reads 108 = .ok (.iconst 1, 1) := by decide +kernel
theorem dX12_reads_109 : decode cX12_reads 109 = .ok (.iadd, 1) := by decide +kernel
theorem dX12_reads_110 : decode cX12_reads 110 = .ok (.putfield 145, 3) := by decide +kernel
theorem dX12_reads_113 : decode cX12_reads 113 = .ok (.aload_n 0, 1) := by decide +kernel
theorem dX12_reads_114 : decode cX12_reads 114 = .ok (.getfield 48, 3) := by decide +kernel
theorem dX12_reads_117 : decode cX12_reads 117 = .ok (.iload_n 1, 1) := by decide +kernel
theorem dX12_reads_118 : decode cX12_reads 118 = .ok (.iconst 0, 1) := by decide +kernel
theorem dX12_reads_119 : decode cX12_reads 119 = .ok (.iastore, 1) := by decide +kernel
theorem dX12_reads_120 : decode cX12_reads 120 = .ok (.aload_n 0, 1) := by decide +kernel
theorem dX12_reads_121 : decode cX12_reads 121 = .ok (.getfield 51, 3) := by decide +kernel
theorem dX12_reads_124 : decode cX12_reads 124 = .ok (.iload_n 1, 1) := by decide +kernel
theorem dX12_reads_125 : decode cX12_reads 125 = .ok (.iconst 0, 1) := by decide +kernel
theorem dX12_reads_126 : decode cX12_reads 126 = .ok (.iastore, 1) := by decide +kernel
theorem dX12_reads_127 : decode cX12_reads 127 = .ok (.aload_n 0, 1) := by decide +kernel
theorem dX12_reads_128 : decode cX12_reads 128 = .ok (.getfield 151, 3) := by decide +kernel
theorem dX12_reads_131 : decode cX12_reads 131 = .ok (.ifCond .ne 59, 3) := by decide +kernel
theorem dX12_reads_134 : decode cX12_reads 134 = .ok (.aload_n 0, 1) := by decide +kernel
theorem dX12_reads_135 : decode cX12_reads 135 = .ok (.invokevirtual 155, 3) := by decide +kernel
theorem dX12_reads_138 : decode cX12_reads 138 = .ok (.bipush 47, 2) := by decide +kernel
theorem dX12_reads_140 : decode cX12_reads 140 = .ok (.if_icmp .ne 50, 3) := by decide +kernel
theorem dX12_reads_143 : decode cX12_reads 143 = .ok (.aload_n 0, 1) := by decide +kernel
theorem dX12_reads_144 : decode cX12_reads 144 = .ok (.dup, 1) := by decide +kernel
theorem dX12_reads_145 : decode cX12_reads 145 = .ok (.getfield 145, 3) := by decide +kernel
theorem dX12_reads_148 : decode cX12_reads 148 = .ok (.iconst 1, 1) := by decide +kernel
theorem dX12_reads_149 : decode cX12_reads 149 = .ok (.iadd, 1) := by decide +kernel
theorem dX12_reads_150 : decode cX12_reads 150 = .ok (.putfield 145, 3) := by decide +kernel
theorem dX12_reads_153 : decode cX12_reads 153 = .ok (.aload_n 0, 1) := by decide +kernel
theorem dX12_reads_154 : decode cX12_reads 154 = .ok (.getfield 48, 3) := by decide +kernel
theorem dX12_reads_157 : decode cX12_reads 157 = .ok (.iload_n 1, 1) := by decide +kernel
theorem dX12_reads_158 : decode cX12_reads 158 = .ok (.aload_n 0, 1) := by decide +kernel
theorem dX12_reads_159 : decode cX12_reads 159 = .ok (.invokevirtual 166, 3) := by decide +kernel
theorem dX12_reads_162 : decode cX12_reads 162 = .ok (.iastore, 1) := by decide +kernel
theorem dX12_reads_163 : decode cX12_reads 163 = .ok (.aload_n 0, 1) := by decide +kernel
theorem dX12_reads_164 : decode cX12_reads 164 = .ok (.bipush 95, 2) := by decide +kernel
theorem dX12_reads_166 : decode cX12_reads 166 = .ok (.invokevirtual 162, 3) := by decide +kernel
theorem dX12_reads_169 : decode cX12_reads 169 = .ok (.aload_n 0, 1) := by decide +kernel
theorem dX12_reads_170 : decode cX12_reads 170 = .ok (.getfield 51, 3) := by decide +kernel
theorem dX12_reads_173 : decode cX12_reads 173 = .ok (.iload_n 1, 1) := by decide +kernel
theorem dX12_reads_174 : decode cX12_reads 174 = .ok (.aload_n 0, 1) := by decide +kernel
theorem dX12_reads_175 : decode cX12_reads 175 = .ok (.getfield 151, 3) := by decide +kernel
theorem dX12_reads_178 : decode cX12_reads 178 = .ok (.ifCond .eq 7, 3) := by decide +kernel
theorem dX12_reads_181 : decode cX12_reads 181 = .ok (.iconst 0, 1) := by decide +kernel
theorem dX12_reads_182 : decode cX12_reads 182 = .ok (.goto 7, 3) := by decide +kernel
theorem dX12_reads_185 : decode cX12_reads 185 = .ok (.aload_n 0, 1) := by decide +kernel
theorem dX12_reads_186 : decode cX12_reads 186 = .ok (.invokevirtual 166, 3) := by decide +kernel
theorem dX12_reads_189 : decode cX12_reads 189 = .ok (.iastore, 1) := by decide +kernel
theorem dX12_reads_190 : decode cX12_reads 190 = .ok (.return_, 1) := by decide +kernel
theorem dX12_law_0 : decode cX12_law 0 = .ok (.aload_n 0, 1) := by decide +kernel
theorem dX12_law_1 : decode cX12_law 1 = .ok (.getfield 127, 3) := by decide +kernel
theorem dX12_law_4 : decode cX12_law 4 = .ok (.bipush 12, 2) := by decide +kernel
theorem dX12_law_6 : decode cX12_law 6 = .ok (.if_icmp .ne 6, 3) := by decide +kernel
theorem dX12_law_9 : decode cX12_law 9 = .ok (.bipush (-4), 2) := by decide +kernel
theorem dX12_law_11 : decode cX12_law 11 = .ok (.ireturn, 1) := by decide +kernel
theorem dX12_law_12 : decode cX12_law 12 = .ok (.aload_n 0, 1) := by decide +kernel
theorem dX12_law_13 : decode cX12_law 13 = .ok (.aload_n 0, 1) := by decide +kernel
theorem dX12_law_14 : decode cX12_law 14 = .ok (.getfield 140, 3) := by decide +kernel
theorem dX12_law_17 : decode cX12_law 17 = .ok (.putfield 148, 3) := by decide +kernel
theorem dX12_law_20 : decode cX12_law 20 = .ok (.aload_n 0, 1) := by decide +kernel
theorem dX12_law_21 : decode cX12_law 21 = .ok (.iconst 0, 1) := by decide +kernel
theorem dX12_law_22 : decode cX12_law 22 = .ok (.putfield 140, 3) := by decide +kernel
theorem dX12_law_25 : decode cX12_law 25 = .ok (.aload_n 0, 1) := by decide +kernel
theorem dX12_law_26 : decode cX12_law 26 = .ok (.iconst 0, 1) := by decide +kernel
theorem dX12_law_27 : decode cX12_law 27 = .ok (.putfield 145, 3) := by decide +kernel
theorem dX12_law_30 : decode cX12_law 30 = .ok (.aload_n 0, 1) := by decide +kernel
theorem dX12_law_31 : decode cX12_law 31 = .ok (.iconst 0, 1) := by decide +kernel
theorem dX12_law_32 : decode cX12_law 32 = .ok (.putfield 151, 3) := by decide +kernel
theorem dX12_law_35 : decode cX12_law 35 = .ok (.iconst 0, 1) := by decide +kernel
theorem dX12_law_36 : decode cX12_law 36 = .ok (.istore_n 1, 1) := by decide +kernel
theorem dX12_law_37 : decode cX12_law 37 = .ok (.aload_n 0, 1) := by decide +kernel
theorem dX12_law_38 : decode cX12_law 38 = .ok (.bipush 6, 2) := by decide +kernel
theorem dX12_law_40 : decode cX12_law 40 = .ok (.aload_n 0, 1) := by decide +kernel
theorem dX12_law_41 : decode cX12_law 41 = .ok (.getfield 127, 3) := by decide +kernel
theorem dX12_law_44 : decode cX12_law 44 = .ok (.imul, 1) := by decide +kernel
theorem dX12_law_45 : decode cX12_law 45 = .ok (.invokevirtual 169, 3) := by decide +kernel
theorem dX12_law_48 : decode cX12_law 48 = .ok (.iinc 1 1, 3) := by decide +kernel
theorem dX12_law_51 : decode cX12_law 51 = .ok (.aload_n 0, 1) := by decide +kernel
theorem dX12_law_52 : decode cX12_law 52 = .ok (.getfield 151, 3) := by decide +kernel
theorem dX12_law_55 : decode cX12_law 55 = .ok (.ifCond .ne 47, 3) := by decide +kernel
theorem dX12_law_58 : decode cX12_law 58 = .ok (.iload_n 1, 1) := by decide +kernel
theorem dX12_law_59 : decode cX12_law 59 = .ok (.bipush 6, 2) := by decide +kernel
theorem dX12_law_61 : decode cX12_law 61 = .ok (.if_icmp .ge 41, 3) := by decide +kernel
theorem dX12_law_64 : decode cX12_law 64 = .ok (.aload_n 0, 1) := by decide +kernel
theorem dX12_law_65 : decode cX12_law 65 = .ok (.invokevirtual 155, 3) := by decide +kernel
theorem dX12_law_68 : decode cX12_law 68 = .ok (.bipush 44, 2) := by decide +kernel
theorem dX12_law_70 : decode cX12_law 70 = .ok (.if_icmp .ne 32, 3) := by decide +kernel
theorem dX12_law_73 : decode cX12_law 73 = .ok (.aload_n 0, 1) := by decide +kernel
theorem dX12_law_74 : decode cX12_law 74 = .ok (.dup, 1) := by decide +kernel
theorem dX12_law_75 : decode cX12_law 75 = .ok (.getfield 145, 3) := by decide +kernel
theorem dX12_law_78 : decode cX12_law 78 = .ok (.iconst 1, 1) := by decide +kernel
theorem dX12_law_79 : decode cX12_law 79 = .ok (.iadd, 1) := by decide +kernel
theorem dX12_law_80 : decode cX12_law 80 = .ok (.putfield 145, 3) := by decide +kernel
theorem dX12_law_83 : decode cX12_law 83 = .ok (.aload_n 0, 1) := by decide +kernel
theorem dX12_law_84 : decode cX12_law 84 = .ok (.bipush 6, 2) := by decide +kernel
theorem dX12_law_86 : decode cX12_law 86 = .ok (.aload_n 0, 1) := by decide +kernel
theorem dX12_law_87 : decode cX12_law 87 = .ok (.getfield 127, 3) := by decide +kernel
theorem dX12_law_90 : decode cX12_law 90 = .ok (.imul, 1) := by decide +kernel
theorem dX12_law_91 : decode cX12_law 91 = .ok (.iload_n 1, 1) := by decide +kernel
theorem dX12_law_92 : decode cX12_law 92 = .ok (.iadd, 1) := by decide +kernel
theorem dX12_law_93 : decode cX12_law 93 = .ok (.invokevirtual 169, 3) := by decide +kernel
theorem dX12_law_96 : decode cX12_law 96 = .ok (.iinc 1 1, 3) := by decide +kernel
theorem dX12_law_99 : decode cX12_law 99 = .ok (.goto (-48), 3) := by decide +kernel
theorem dX12_law_102 : decode cX12_law 102 = .ok (.aload_n 0, 1) := by decide +kernel
theorem dX12_law_103 : decode cX12_law 103 = .ok (.getfield 151, 3) := by decide +kernel
theorem dX12_law_106 : decode cX12_law 106 = .ok (.ifCond .ne 14, 3) := by decide +kernel
theorem dX12_law_109 : decode cX12_law 109 = .ok (.aload_n 0, 1) := by decide +kernel
theorem dX12_law_110 : decode cX12_law 110 = .ok (.getfield 145, 3) := by decide +kernel
theorem dX12_law_113 : decode cX12_law 113 = .ok (.aload_n 0, 1) := by decide +kernel
theorem dX12_law_114 : decode cX12_law 114 = .ok (.getfield 148, 3) := by decide +kernel
theorem dX12_law_117 : decode cX12_law 117 = .ok (.if_icmp .eq 11, 3) := by decide +kernel
theorem dX12_law_120 : decode cX12_law 120 = .ok (.bipush (-10), 2) := by decide +kernel
theorem dX12_law_122 : decode cX12_law 122 = .ok (.aload_n 0, 1) := by decide +kernel
theorem dX12_law_123 : decode cX12_law 123 = .ok (.getfield 145, 3) := by decide +kernel
theorem dX12_law_126 : decode cX12_law 126 = .ok (.isub, 1) := by decide +kernel
theorem dX12_law_127 : decode cX12_law 127 = .ok (.ireturn, 1) := by decide +kernel
theorem dX12_law_128 : decode cX12_law 128 = .ok (.aload_n 0, 1) := by decide +kernel
theorem dX12_law_129 : decode cX12_law 129 = .ok (.getfield 39, 3) := by decide +kernel
theorem dX12_law_132 : decode cX12_law 132 = .ok (.aload_n 0, 1) := by decide +kernel
theorem dX12_law_133 : decode cX12_law 133 = .ok (.getfield 127, 3) := by decide +kernel
theorem dX12_law_136 : decode cX12_law 136 = .ok (.iload_n 1, 1) := by decide +kernel
theorem dX12_law_137 : decode cX12_law 137 = .ok (.iastore, 1) := by decide +kernel
theorem dX12_law_138 : decode cX12_law 138 = .ok (.aload_n 0, 1) := by decide +kernel
theorem dX12_law_139 : decode cX12_law 139 = .ok (.dup, 1) := by decide +kernel
theorem dX12_law_140 : decode cX12_law 140 = .ok (.getfield 127, 3) := by decide +kernel
theorem dX12_law_143 : decode cX12_law 143 = .ok (.iconst 1, 1) := by decide +kernel
theorem dX12_law_144 : decode cX12_law 144 = .ok (.iadd, 1) := by decide +kernel
theorem dX12_law_145 : decode cX12_law 145 = .ok (.putfield 127, 3) := by decide +kernel
theorem dX12_law_148 : decode cX12_law 148 = .ok (.aload_n 0, 1) := by decide +kernel
theorem dX12_law_149 : decode cX12_law 149 = .ok (.getfield 127, 3) := by decide +kernel
theorem dX12_law_152 : decode cX12_law 152 = .ok (.iconst 1, 1) := by decide +kernel
theorem dX12_law_153 : decode cX12_law 153 = .ok (.isub, 1) := by decide +kernel
theorem dX12_law_154 : decode cX12_law 154 = .ok (.ireturn, 1) := by decide +kernel
theorem dX12_isVowel_0 : decode cX12_isVowel 0 = .ok (.iload_n 0, 1) := by decide +kernel
theorem dX12_isVowel_1 : decode cX12_isVowel 1 = .ok (.iconst 1, 1) := by decide +kernel
theorem dX12_isVowel_2 : decode cX12_isVowel 2 = .ok (.if_icmp .eq 26, 3) := by decide +kernel
theorem dX12_isVowel_5 : decode cX12_isVowel 5 = .ok (.iload_n 0, 1) := by decide +kernel
theorem dX12_isVowel_6 : decode cX12_isVowel 6 = .ok (.iconst 5, 1) := by decide +kernel
theorem dX12_isVowel_7 : decode cX12_isVowel 7 = .ok (.if_icmp .eq 21, 3) := by decide +kernel
theorem dX12_isVowel_10 : decode cX12_isVowel 10 = .ok (.iload_n 0, 1) := by decide +kernel
theorem dX12_isVowel_11 : decode cX12_isVowel 11 = .ok (.bipush 9, 2) := by decide +kernel
theorem dX12_isVowel_13 : decode cX12_isVowel 13 = .ok (.if_icmp .eq 15, 3) := by decide +kernel
theorem dX12_isVowel_16 : decode cX12_isVowel 16 = .ok (.iload_n 0, 1) := by decide +kernel
theorem dX12_isVowel_17 : decode cX12_isVowel 17 = .ok (.bipush 15, 2) := by decide +kernel
theorem dX12_isVowel_19 : decode cX12_isVowel 19 = .ok (.if_icmp .eq 9, 3) := by decide +kernel
theorem dX12_isVowel_22 : decode cX12_isVowel 22 = .ok (.iload_n 0, 1) := by decide +kernel
theorem dX12_isVowel_23 : decode cX12_isVowel 23 = .ok (.bipush 21, 2) := by decide +kernel
theorem dX12_isVowel_25 : decode cX12_isVowel 25 = .ok (.if_icmp .ne 7, 3) := by decide +kernel
theorem dX12_isVowel_28 : decode cX12_isVowel 28 = .ok (.iconst 1, 1) := by decide +kernel
theorem dX12_isVowel_29 : decode cX12_isVowel 29 = .ok (.goto 4, 3) := by decide +kernel
theorem dX12_isVowel_32 : decode cX12_isVowel 32 = .ok (.iconst 0, 1) := by decide +kernel
theorem dX12_isVowel_33 : decode cX12_isVowel 33 = .ok (.ireturn, 1) := by decide +kernel
theorem dX12_isAs_0 : decode cX12_isAs 0 = .ok (.iload_n 0, 1) := by decide +kernel
theorem dX12_isAs_1 : decode cX12_isAs 1 = .ok (.iload_n 1, 1) := by decide +kernel
theorem dX12_isAs_2 : decode cX12_isAs 2 = .ok (.if_icmp .eq 29, 3) := by decide +kernel
theorem dX12_isAs_5 : decode cX12_isAs 5 = .ok (.iload_n 0, 1) := by decide +kernel
theorem dX12_isAs_6 : decode cX12_isAs 6 = .ok (.bipush 27, 2) := by decide +kernel
theorem dX12_isAs_8 : decode cX12_isAs 8 = .ok (.if_icmp .ne 10, 3) := by decide +kernel
theorem dX12_isAs_11 : decode cX12_isAs 11 = .ok (.iload_n 1, 1) := by decide +kernel
theorem dX12_isAs_12 : decode cX12_isAs 12 = .ok (.invokestatic 172, 3) := by decide +kernel
theorem dX12_isAs_15 : decode cX12_isAs 15 = .ok (.ifCond .ne 16, 3) := by decide +kernel
theorem dX12_isAs_18 : decode cX12_isAs 18 = .ok (.iload_n 0, 1) := by decide +kernel
theorem dX12_isAs_19 : decode cX12_isAs 19 = .ok (.bipush 28, 2) := by decide +kernel
theorem dX12_isAs_21 : decode cX12_isAs 21 = .ok (.if_icmp .ne 14, 3) := by decide +kernel
theorem dX12_isAs_24 : decode cX12_isAs 24 = .ok (.iload_n 1, 1) := by decide +kernel
theorem dX12_isAs_25 : decode cX12_isAs 25 = .ok (.invokestatic 172, 3) := by decide +kernel
theorem dX12_isAs_28 : decode cX12_isAs 28 = .ok (.ifCond .ne 7, 3) := by decide +kernel
theorem dX12_isAs_31 : decode cX12_isAs 31 = .ok (.iconst 1, 1) := by decide +kernel
theorem dX12_isAs_32 : decode cX12_isAs 32 = .ok (.goto 4, 3) := by decide +kernel
theorem dX12_isAs_35 : decode cX12_isAs 35 = .ok (.iconst 0, 1) := by decide +kernel
theorem dX12_isAs_36 : decode cX12_isAs 36 = .ok (.ireturn, 1) := by decide +kernel
theorem dX12_stands_0 : decode cX12_stands 0 = .ok (.iload_n 2, 1) := by decide +kernel
theorem dX12_stands_1 : decode cX12_stands 1 = .ok (.iconst 0, 1) := by decide +kernel
theorem dX12_stands_2 : decode cX12_stands 2 = .ok (.aload_n 0, 1) := by decide +kernel
theorem dX12_stands_3 : decode cX12_stands 3 = .ok (.getfield 175, 3) := by decide +kernel
theorem dX12_stands_6 : decode cX12_stands 6 = .ok (.iconst 1, 1) := by decide +kernel
theorem dX12_stands_7 : decode cX12_stands 7 = .ok (.isub, 1) := by decide +kernel
theorem dX12_stands_8 : decode cX12_stands 8 = .ok (.invokestatic 123, 3) := by decide +kernel
theorem dX12_stands_11 : decode cX12_stands 11 = .ok (.istore_n 3, 1) := by decide +kernel
theorem dX12_stands_12 : decode cX12_stands 12 = .ok (.iload_n 1, 1) := by decide +kernel
theorem dX12_stands_13 : decode cX12_stands 13 = .ok (.ifCond .eq 33, 3) := by decide +kernel
theorem dX12_stands_16 : decode cX12_stands 16 = .ok (.iload_n 1, 1) := by decide +kernel
theorem dX12_stands_17 : decode cX12_stands 17 = .ok (.bipush 29, 2) := by decide +kernel
theorem dX12_stands_19 : decode cX12_stands 19 = .ok (.if_icmp .ne 10, 3) := by decide +kernel
theorem dX12_stands_22 : decode cX12_stands 22 = .ok (.iload_n 3, 1) := by decide +kernel
theorem dX12_stands_23 : decode cX12_stands 23 = .ok (.ifCond .ne 27, 3) := by decide +kernel
theorem dX12_stands_26 : decode cX12_stands 26 = .ok (.goto 20, 3) := by decide +kernel
theorem dX12_stands_29 : decode cX12_stands 29 = .ok (.iload_n 3, 1) := by decide +kernel
theorem dX12_stands_30 : decode cX12_stands 30 = .ok (.ifCond .eq 20, 3) := by decide +kernel
theorem dX12_stands_33 : decode cX12_stands 33 = .ok (.iload_n 1, 1) := by decide +kernel
theorem dX12_stands_34 : decode cX12_stands 34 = .ok (.aload_n 0, 1) := by decide +kernel
theorem dX12_stands_35 : decode cX12_stands 35 = .ok (.getfield 78, 3) := by decide +kernel
theorem dX12_stands_38 : decode cX12_stands 38 = .ok (.iload_n 2, 1) := by decide +kernel
theorem dX12_stands_39 : decode cX12_stands 39 = .ok (.iaload, 1) := by decide +kernel
theorem dX12_stands_40 : decode cX12_stands 40 = .ok (.invokestatic 178, 3) := by decide +kernel
theorem dX12_stands_43 : decode cX12_stands 43 = .ok (.ifCond .eq 7, 3) := by decide +kernel
theorem dX12_stands_46 : decode cX12_stands 46 = .ok (.iconst 1, 1) := by decide +kernel
theorem dX12_stands_47 : decode cX12_stands 47 = .ok (.goto 4, 3) := by decide +kernel
theorem dX12_stands_50 : decode cX12_stands 50 = .ok (.iconst 0, 1) := by decide +kernel
theorem dX12_stands_51 : decode cX12_stands 51 = .ok (.ireturn, 1) := by decide +kernel
theorem dX12_changeOf_0 : decode cX12_changeOf 0 = .ok (.bipush 6, 2) := by decide +kernel
theorem dX12_changeOf_2 : decode cX12_changeOf 2 = .ok (.iload_n 1, 1) := by decide +kernel
theorem dX12_changeOf_3 : decode cX12_changeOf 3 = .ok (.imul, 1) := by decide +kernel
theorem dX12_changeOf_4 : decode cX12_changeOf 4 = .ok (.istore_n 3, 1) := by decide +kernel
theorem dX12_changeOf_5 : decode cX12_changeOf 5 = .ok (.iload_n 3, 1) := by decide +kernel
theorem dX12_changeOf_6 : decode cX12_changeOf 6 = .ok (.bipush 6, 2) := by decide +kernel
theorem dX12_changeOf_8 : decode cX12_changeOf 8 = .ok (.iload_n 1, 1) := by decide +kernel
theorem dX12_changeOf_9 : decode cX12_changeOf 9 = .ok (.imul, 1) := by decide +kernel
theorem dX12_changeOf_10 : decode cX12_changeOf 10 = .ok (.aload_n 0, 1) := by decide +kernel
theorem dX12_changeOf_11 : decode cX12_changeOf 11 = .ok (.getfield 39, 3) := by decide +kernel
theorem dX12_changeOf_14 : decode cX12_changeOf 14 = .ok (.iload_n 1, 1) := by decide +kernel
theorem dX12_changeOf_15 : decode cX12_changeOf 15 = .ok (.iaload, 1) := by decide +kernel
theorem dX12_changeOf_16 : decode cX12_changeOf 16 = .ok (.iadd, 1) := by decide +kernel
theorem dX12_changeOf_17 : decode cX12_changeOf 17 = .ok (.if_icmp .ge 61, 3) := by decide +kernel
theorem dX12_changeOf_20 : decode cX12_changeOf 20 = .ok (.aload_n 0, 1) := by decide +kernel
theorem dX12_changeOf_21 : decode cX12_changeOf 21 = .ok (.getfield 42, 3) := by decide +kernel
theorem dX12_changeOf_24 : decode cX12_changeOf 24 = .ok (.iload_n 3, 1) := by decide +kernel
theorem dX12_changeOf_25 : decode cX12_changeOf 25 = .ok (.iaload, 1) := by decide +kernel
theorem dX12_changeOf_26 : decode cX12_changeOf 26 = .ok (.aload_n 0, 1) := by decide +kernel
theorem dX12_changeOf_27 : decode cX12_changeOf 27 = .ok (.getfield 78, 3) := by decide +kernel
theorem dX12_changeOf_30 : decode cX12_changeOf 30 = .ok (.iload_n 2, 1) := by decide +kernel
theorem dX12_changeOf_31 : decode cX12_changeOf 31 = .ok (.iaload, 1) := by decide +kernel
theorem dX12_changeOf_32 : decode cX12_changeOf 32 = .ok (.invokestatic 178, 3) := by decide +kernel
theorem dX12_changeOf_35 : decode cX12_changeOf 35 = .ok (.ifCond .eq 37, 3) := by decide +kernel
theorem dX12_changeOf_38 : decode cX12_changeOf 38 = .ok (.aload_n 0, 1) := by decide +kernel
theorem dX12_changeOf_39 : decode cX12_changeOf 39 = .ok (.aload_n 0, 1) := by decide +kernel
theorem dX12_changeOf_40 : decode cX12_changeOf 40 = .ok (.getfield 48, 3) := by decide +kernel
theorem dX12_changeOf_43 : decode cX12_changeOf 43 = .ok (.iload_n 3, 1) := by decide +kernel
theorem dX12_changeOf_44 : decode cX12_changeOf 44 = .ok (.iaload, 1) := by decide +kernel
theorem dX12_changeOf_45 : decode cX12_changeOf 45 = .ok (.iload_n 2, 1) := by decide +kernel
theorem dX12_changeOf_46 : decode cX12_changeOf 46 = .ok (.iconst 1, 1) := by decide +kernel
theorem dX12_changeOf_47 : decode cX12_changeOf 47 = .ok (.isub, 1) := by decide +kernel
theorem dX12_changeOf_48 : decode cX12_changeOf 48 = .ok (.invokevirtual 182, 3) := by decide +kernel
theorem dX12_changeOf_51 : decode cX12_changeOf 51 = .ok (.ifCond .eq 21, 3) := by decide +kernel
theorem dX12_changeOf_54 : decode cX12_changeOf 54 = .ok (.aload_n 0, 1) := by decide +kernel
theorem dX12_changeOf_55 : decode cX12_changeOf 55 = .ok (.aload_n 0, 1) := by decide +kernel
theorem dX12_changeOf_56 : decode cX12_changeOf 56 = .ok (.getfield 51, 3) := by decide +kernel
theorem dX12_changeOf_59 : decode cX12_changeOf 59 = .ok (.iload_n 3, 1) := by decide +kernel
theorem dX12_changeOf_60 : decode cX12_changeOf 60 = .ok (.iaload, 1) := by decide +kernel
theorem dX12_changeOf_61 : decode cX12_changeOf 61 = .ok (.iload_n 2, 1) := by decide +kernel
theorem dX12_changeOf_62 : decode cX12_changeOf 62 = .ok (.iconst 1, 1) := by decide +kernel
theorem dX12_changeOf_63 : decode cX12_changeOf 63 = .ok (.iadd, 1) := by decide +kernel
theorem dX12_changeOf_64 : decode cX12_changeOf 64 = .ok (.invokevirtual 182, 3) := by decide +kernel
theorem dX12_changeOf_67 : decode cX12_changeOf 67 = .ok (.ifCond .eq 5, 3) := by decide +kernel
theorem dX12_changeOf_70 : decode cX12_changeOf 70 = .ok (.iload_n 3, 1) := by decide +kernel
theorem dX12_changeOf_71 : decode cX12_changeOf 71 = .ok (.ireturn, 1) := by decide +kernel
theorem dX12_changeOf_72 : decode cX12_changeOf 72 = .ok (.iinc 3 1, 3) := by decide +kernel
theorem dX12_changeOf_75 : decode cX12_changeOf 75 = .ok (.goto (-70), 3) := by decide +kernel
theorem dX12_changeOf_78 : decode cX12_changeOf 78 = .ok (.iconst (-1), 1) := by decide +kernel
theorem dX12_changeOf_79 : decode cX12_changeOf 79 = .ok (.ireturn, 1) := by decide +kernel
theorem dX12_applies_0 : decode cX12_applies 0 = .ok (.iconst 0, 1) := by decide +kernel
theorem dX12_applies_1 : decode cX12_applies 1 = .ok (.istore_n 2, 1) := by decide +kernel
theorem dX12_applies_2 : decode cX12_applies 2 = .ok (.iload_n 2, 1) := by decide +kernel
theorem dX12_applies_3 : decode cX12_applies 3 = .ok (.aload_n 0, 1) := by decide +kernel
theorem dX12_applies_4 : decode cX12_applies 4 = .ok (.getfield 175, 3) := by decide +kernel
theorem dX12_applies_7 : decode cX12_applies 7 = .ok (.if_icmp .ge 21, 3) := by decide +kernel
theorem dX12_applies_10 : decode cX12_applies 10 = .ok (.aload_n 0, 1) := by decide +kernel
theorem dX12_applies_11 : decode cX12_applies 11 = .ok (.getfield 78, 3) := by decide +kernel
theorem dX12_applies_14 : decode cX12_applies 14 = .ok (.iload_n 2, 1) := by decide +kernel
theorem dX12_applies_15 : decode cX12_applies 15 = .ok (.aload_n 0, 1) := by decide +kernel
theorem dX12_applies_16 : decode cX12_applies 16 = .ok (.getfield 75, 3) := by decide +kernel
theorem dX12_applies_19 : decode cX12_applies 19 = .ok (.iload_n 2, 1) := by decide +kernel
theorem dX12_applies_20 : decode cX12_applies 20 = .ok (.iaload, 1) := by decide +kernel
theorem dX12_applies_21 : decode cX12_applies 21 = .ok (.iastore, 1) := by decide +kernel
theorem dX12_applies_22 : decode cX12_applies 22 = .ok (.iinc 2 1, 3) := by decide +kernel
theorem dX12_applies_25 : decode cX12_applies 25 = .ok (.goto (-23), 3) := by decide +kernel
theorem dX12_applies_28 : decode cX12_applies 28 = .ok (.iconst 0, 1) := by decide +kernel
theorem dX12_applies_29 : decode cX12_applies 29 = .ok (.istore_n 2, 1) := by decide +kernel
theorem dX12_applies_30 : decode cX12_applies 30 = .ok (.iconst 0, 1) := by decide +kernel
theorem dX12_applies_31 : decode cX12_applies 31 = .ok (.istore_n 3, 1) := by decide +kernel
theorem dX12_applies_32 : decode cX12_applies 32 = .ok (.iload_n 3, 1) := by decide +kernel
theorem dX12_applies_33 : decode cX12_applies 33 = .ok (.aload_n 0, 1) := by decide +kernel
theorem dX12_applies_34 : decode cX12_applies 34 = .ok (.getfield 175, 3) := by decide +kernel
theorem dX12_applies_37 : decode cX12_applies 37 = .ok (.if_icmp .ge 57, 3) := by decide +kernel
theorem dX12_applies_40 : decode cX12_applies 40 = .ok (.aload_n 0, 1) := by decide +kernel
theorem dX12_applies_41 : decode cX12_applies 41 = .ok (.iload_n 1, 1) := by decide +kernel
theorem dX12_applies_42 : decode cX12_applies 42 = .ok (.iload_n 3, 1) := by decide +kernel
theorem dX12_applies_43 : decode cX12_applies 43 = .ok (.invokevirtual 185, 3) := by decide +kernel
theorem dX12_applies_46 : decode cX12_applies 46 = .ok (.istore 4, 2) := by decide +kernel
theorem dX12_applies_48 : decode cX12_applies 48 = .ok (.iload 4, 2) := by decide +kernel
theorem dX12_applies_50 : decode cX12_applies 50 = .ok (.iconst (-1), 1) := by decide +kernel
theorem dX12_applies_51 : decode cX12_applies 51 = .ok (.if_icmp .ne 12, 3) := by decide +kernel
theorem dX12_applies_54 : decode cX12_applies 54 = .ok (.aload_n 0, 1) := by decide +kernel
theorem dX12_applies_55 : decode cX12_applies 55 = .ok (.getfield 78, 3) := by decide +kernel
theorem dX12_applies_58 : decode cX12_applies 58 = .ok (.iload_n 3, 1) := by decide +kernel
theorem dX12_applies_59 : decode cX12_applies 59 = .ok (.iaload, 1) := by decide +kernel
theorem dX12_applies_60 : decode cX12_applies 60 = .ok (.goto 10, 3) := by decide +kernel
theorem dX12_applies_63 : decode cX12_applies 63 = .ok (.aload_n 0, 1) := by decide +kernel
theorem dX12_applies_64 : decode cX12_applies 64 = .ok (.getfield 45, 3) := by decide +kernel
theorem dX12_applies_67 : decode cX12_applies 67 = .ok (.iload 4, 2) := by decide +kernel
theorem dX12_applies_69 : decode cX12_applies 69 = .ok (.iaload, 1) := by decide +kernel
theorem dX12_applies_70 : decode cX12_applies 70 = .ok (.istore 5, 2) := by decide +kernel
theorem dX12_applies_72 : decode cX12_applies 72 = .ok (.iload 5, 2) := by decide +kernel
theorem dX12_applies_74 : decode cX12_applies 74 = .ok (.ifCond .le 14, 3) := by decide +kernel
theorem dX12_applies_77 : decode cX12_applies 77 = .ok (.aload_n 0, 1) := by decide +kernel
theorem dX12_applies_78 : decode cX12_applies 78 = .ok (.getfield 75, 3) := by decide +kernel
theorem dX12_applies_81 : decode cX12_applies 81 = .ok (.iload_n 2, 1) := by decide +kernel
theorem dX12_applies_82 : decode cX12_applies 82 = .ok (.iload 5, 2) := by decide +kernel
theorem dX12_applies_84 : decode cX12_applies 84 = .ok (.iastore, 1) := by decide +kernel
theorem dX12_applies_85 : decode cX12_applies 85 = .ok (.iinc 2 1, 3) := by decide +kernel
theorem dX12_applies_88 : decode cX12_applies 88 = .ok (.iinc 3 1, 3) := by decide +kernel
theorem dX12_applies_91 : decode cX12_applies 91 = .ok (.goto (-59), 3) := by decide +kernel
theorem dX12_applies_94 : decode cX12_applies 94 = .ok (.iload_n 2, 1) := by decide +kernel
theorem dX12_applies_95 : decode cX12_applies 95 = .ok (.ifCond .ne 34, 3) := by decide +kernel
theorem dX12_applies_98 : decode cX12_applies 98 = .ok (.iconst 0, 1) := by decide +kernel
theorem dX12_applies_99 : decode cX12_applies 99 = .ok (.istore_n 3, 1) := by decide +kernel
theorem dX12_applies_100 : decode cX12_applies 100 = .ok (.iload_n 3, 1) := by decide +kernel
theorem dX12_applies_101 : decode cX12_applies 101 = .ok (.aload_n 0, 1) := by decide +kernel
theorem dX12_applies_102 : decode cX12_applies 102 = .ok (.getfield 175, 3) := by decide +kernel
theorem dX12_applies_105 : decode cX12_applies 105 = .ok (.if_icmp .ge 21, 3) := by decide +kernel
theorem dX12_applies_108 : decode cX12_applies 108 = .ok (.aload_n 0, 1) := by decide +kernel
theorem dX12_applies_109 : decode cX12_applies 109 = .ok (.getfield 75, 3) := by decide +kernel
theorem dX12_applies_112 : decode cX12_applies 112 = .ok (.iload_n 3, 1) := by decide +kernel
theorem dX12_applies_113 : decode cX12_applies 113 = .ok (.aload_n 0, 1) := by decide +kernel
theorem dX12_applies_114 : decode cX12_applies 114 = .ok (.getfield 78, 3) := by decide +kernel
theorem dX12_applies_117 : decode cX12_applies 117 = .ok (.iload_n 3, 1) := by decide +kernel
theorem dX12_applies_118 : decode cX12_applies 118 = .ok (.iaload, 1) := by decide +kernel
theorem dX12_applies_119 : decode cX12_applies 119 = .ok (.iastore, 1) := by decide +kernel
theorem dX12_applies_120 : decode cX12_applies 120 = .ok (.iinc 3 1, 3) := by decide +kernel
theorem dX12_applies_123 : decode cX12_applies 123 = .ok (.goto (-23), 3) := by decide +kernel
theorem dX12_applies_126 : decode cX12_applies 126 = .ok (.goto 8, 3) := by decide +kernel
theorem dX12_applies_129 : decode cX12_applies 129 = .ok (.aload_n 0, 1) := by decide +kernel
theorem dX12_applies_130 : decode cX12_applies 130 = .ok (.iload_n 2, 1) := by decide +kernel
theorem dX12_applies_131 : decode cX12_applies 131 = .ok (.putfield 175, 3) := by decide +kernel
theorem dX12_applies_134 : decode cX12_applies 134 = .ok (.return_, 1) := by decide +kernel
theorem dX12_takes_0 : decode cX12_takes 0 = .ok (.aload_n 0, 1) := by decide +kernel
theorem dX12_takes_1 : decode cX12_takes 1 = .ok (.aload_n 0, 1) := by decide +kernel
theorem dX12_takes_2 : decode cX12_takes 2 = .ok (.getfield 17, 3) := by decide +kernel
theorem dX12_takes_5 : decode cX12_takes 5 = .ok (.bipush 10, 2) := by decide +kernel
theorem dX12_takes_7 : decode cX12_takes 7 = .ok (.iload_n 1, 1) := by decide +kernel
theorem dX12_takes_8 : decode cX12_takes 8 = .ok (.imul, 1) := by decide +kernel
theorem dX12_takes_9 : decode cX12_takes 9 = .ok (.iload_n 2, 1) := by decide +kernel
theorem dX12_takes_10 : decode cX12_takes 10 = .ok (.iadd, 1) := by decide +kernel
theorem dX12_takes_11 : decode cX12_takes 11 = .ok (.iaload, 1) := by decide +kernel
theorem dX12_takes_12 : decode cX12_takes 12 = .ok (.putfield 175, 3) := by decide +kernel
theorem dX12_takes_15 : decode cX12_takes 15 = .ok (.iconst 0, 1) := by decide +kernel
theorem dX12_takes_16 : decode cX12_takes 16 = .ok (.istore_n 3, 1) := by decide +kernel
theorem dX12_takes_17 : decode cX12_takes 17 = .ok (.iload_n 3, 1) := by decide +kernel
theorem dX12_takes_18 : decode cX12_takes 18 = .ok (.aload_n 0, 1) := by decide +kernel
theorem dX12_takes_19 : decode cX12_takes 19 = .ok (.getfield 175, 3) := by decide +kernel
theorem dX12_takes_22 : decode cX12_takes 22 = .ok (.if_icmp .ge 31, 3) := by decide +kernel
theorem dX12_takes_25 : decode cX12_takes 25 = .ok (.aload_n 0, 1) := by decide +kernel
theorem dX12_takes_26 : decode cX12_takes 26 = .ok (.getfield 75, 3) := by decide +kernel
theorem dX12_takes_29 : decode cX12_takes 29 = .ok (.iload_n 3, 1) := by decide +kernel
theorem dX12_takes_30 : decode cX12_takes 30 = .ok (.aload_n 0, 1) := by decide +kernel
theorem dX12_takes_31 : decode cX12_takes 31 = .ok (.getfield 20, 3) := by decide +kernel
theorem dX12_takes_34 : decode cX12_takes 34 = .ok (.bipush 80, 2) := by decide +kernel
theorem dX12_takes_36 : decode cX12_takes 36 = .ok (.iload_n 1, 1) := by decide +kernel
theorem dX12_takes_37 : decode cX12_takes 37 = .ok (.imul, 1) := by decide +kernel
theorem dX12_takes_38 : decode cX12_takes 38 = .ok (.bipush 8, 2) := by decide +kernel
theorem dX12_takes_40 : decode cX12_takes 40 = .ok (.iload_n 2, 1) := by decide +kernel
theorem dX12_takes_41 : decode cX12_takes 41 = .ok (.imul, 1) := by decide +kernel
theorem dX12_takes_42 : decode cX12_takes 42 = .ok (.iadd, 1) := by decide +kernel
theorem dX12_takes_43 : decode cX12_takes 43 = .ok (.iload_n 3, 1) := by decide +kernel
theorem dX12_takes_44 : decode cX12_takes 44 = .ok (.iadd, 1) := by decide +kernel
theorem dX12_takes_45 : decode cX12_takes 45 = .ok (.iaload, 1) := by decide +kernel
theorem dX12_takes_46 : decode cX12_takes 46 = .ok (.iastore, 1) := by decide +kernel
theorem dX12_takes_47 : decode cX12_takes 47 = .ok (.iinc 3 1, 3) := by decide +kernel
theorem dX12_takes_50 : decode cX12_takes 50 = .ok (.goto (-33), 3) := by decide +kernel
theorem dX12_takes_53 : decode cX12_takes 53 = .ok (.return_, 1) := by decide +kernel
theorem dX12_isWord_0 : decode cX12_isWord 0 = .ok (.aload_n 0, 1) := by decide +kernel
theorem dX12_isWord_1 : decode cX12_isWord 1 = .ok (.getfield 175, 3) := by decide +kernel
theorem dX12_isWord_4 : decode cX12_isWord 4 = .ok (.aload_n 0, 1) := by decide +kernel
theorem dX12_isWord_5 : decode cX12_isWord 5 = .ok (.getfield 17, 3) := by decide +kernel
theorem dX12_isWord_8 : decode cX12_isWord 8 = .ok (.bipush 10, 2) := by decide +kernel
theorem dX12_isWord_10 : decode cX12_isWord 10 = .ok (.iload_n 1, 1) := by decide +kernel
theorem dX12_isWord_11 : decode cX12_isWord 11 = .ok (.imul, 1) := by decide +kernel
theorem dX12_isWord_12 : decode cX12_isWord 12 = .ok (.iload_n 2, 1) := by decide +kernel
theorem dX12_isWord_13 : decode cX12_isWord 13 = .ok (.iadd, 1) := by decide +kernel
theorem dX12_isWord_14 : decode cX12_isWord 14 = .ok (.iaload, 1) := by decide +kernel
theorem dX12_isWord_15 : decode cX12_isWord 15 = .ok (.if_icmp .ne 7, 3) := by decide +kernel
theorem dX12_isWord_18 : decode cX12_isWord 18 = .ok (.iconst 1, 1) := by decide +kernel
theorem dX12_isWord_19 : decode cX12_isWord 19 = .ok (.goto 4, 3) := by decide +kernel
theorem dX12_isWord_22 : decode cX12_isWord 22 = .ok (.iconst 0, 1) := by decide +kernel
theorem dX12_isWord_23 : decode cX12_isWord 23 = .ok (.istore_n 3, 1) := by decide +kernel
theorem dX12_isWord_24 : decode cX12_isWord 24 = .ok (.iconst 0, 1) := by decide +kernel
theorem dX12_isWord_25 : decode cX12_isWord 25 = .ok (.istore 4, 2) := by decide +kernel
theorem dX12_isWord_27 : decode cX12_isWord 27 = .ok (.iload 4, 2) := by decide +kernel
theorem dX12_isWord_29 : decode cX12_isWord 29 = .ok (.aload_n 0, 1) := by decide +kernel
theorem dX12_isWord_30 : decode cX12_isWord 30 = .ok (.getfield 175, 3) := by decide +kernel
theorem dX12_isWord_33 : decode cX12_isWord 33 = .ok (.if_icmp .ge 46, 3) := by decide +kernel
theorem dX12_isWord_36 : decode cX12_isWord 36 = .ok (.iload_n 3, 1) := by decide +kernel
theorem dX12_isWord_37 : decode cX12_isWord 37 = .ok (.ifCond .eq 42, 3) := by decide +kernel
theorem dX12_isWord_40 : decode cX12_isWord 40 = .ok (.aload_n 0, 1) := by decide +kernel
theorem dX12_isWord_41 : decode cX12_isWord 41 = .ok (.getfield 75, 3) := by decide +kernel
theorem dX12_isWord_44 : decode cX12_isWord 44 = .ok (.iload 4, 2) := by decide +kernel
theorem dX12_isWord_46 : decode cX12_isWord 46 = .ok (.iaload, 1) := by decide +kernel
theorem dX12_isWord_47 : decode cX12_isWord 47 = .ok (.aload_n 0, 1) := by decide +kernel
theorem dX12_isWord_48 : decode cX12_isWord 48 = .ok (.getfield 20, 3) := by decide +kernel
theorem dX12_isWord_51 : decode cX12_isWord 51 = .ok (.bipush 80, 2) := by decide +kernel
theorem dX12_isWord_53 : decode cX12_isWord 53 = .ok (.iload_n 1, 1) := by decide +kernel
theorem dX12_isWord_54 : decode cX12_isWord 54 = .ok (.imul, 1) := by decide +kernel
theorem dX12_isWord_55 : decode cX12_isWord 55 = .ok (.bipush 8, 2) := by decide +kernel
theorem dX12_isWord_57 : decode cX12_isWord 57 = .ok (.iload_n 2, 1) := by decide +kernel
theorem dX12_isWord_58 : decode cX12_isWord 58 = .ok (.imul, 1) := by decide +kernel
theorem dX12_isWord_59 : decode cX12_isWord 59 = .ok (.iadd, 1) := by decide +kernel
theorem dX12_isWord_60 : decode cX12_isWord 60 = .ok (.iload 4, 2) := by decide +kernel
theorem dX12_isWord_62 : decode cX12_isWord 62 = .ok (.iadd, 1) := by decide +kernel
theorem dX12_isWord_63 : decode cX12_isWord 63 = .ok (.iaload, 1) := by decide +kernel
theorem dX12_isWord_64 : decode cX12_isWord 64 = .ok (.if_icmp .ne 7, 3) := by decide +kernel
theorem dX12_isWord_67 : decode cX12_isWord 67 = .ok (.iconst 1, 1) := by decide +kernel
theorem dX12_isWord_68 : decode cX12_isWord 68 = .ok (.goto 4, 3) := by decide +kernel
theorem dX12_isWord_71 : decode cX12_isWord 71 = .ok (.iconst 0, 1) := by decide +kernel
theorem dX12_isWord_72 : decode cX12_isWord 72 = .ok (.istore_n 3, 1) := by decide +kernel
theorem dX12_isWord_73 : decode cX12_isWord 73 = .ok (.iinc 4 1, 3) := by decide +kernel
theorem dX12_isWord_76 : decode cX12_isWord 76 = .ok (.goto (-49), 3) := by decide +kernel
theorem dX12_isWord_79 : decode cX12_isWord 79 = .ok (.iload_n 3, 1) := by decide +kernel
theorem dX12_isWord_80 : decode cX12_isWord 80 = .ok (.ireturn, 1) := by decide +kernel
theorem dX12_puts_0 : decode cX12_puts 0 = .ok (.aload_n 0, 1) := by decide +kernel
theorem dX12_puts_1 : decode cX12_puts 1 = .ok (.getfield 17, 3) := by decide +kernel
theorem dX12_puts_4 : decode cX12_puts 4 = .ok (.bipush 10, 2) := by decide +kernel
theorem dX12_puts_6 : decode cX12_puts 6 = .ok (.iload_n 1, 1) := by decide +kernel
theorem dX12_puts_7 : decode cX12_puts 7 = .ok (.imul, 1) := by decide +kernel
theorem dX12_puts_8 : decode cX12_puts 8 = .ok (.iload_n 2, 1) := by decide +kernel
theorem dX12_puts_9 : decode cX12_puts 9 = .ok (.iadd, 1) := by decide +kernel
theorem dX12_puts_10 : decode cX12_puts 10 = .ok (.aload_n 0, 1) := by decide +kernel
theorem dX12_puts_11 : decode cX12_puts 11 = .ok (.getfield 175, 3) := by decide +kernel
theorem dX12_puts_14 : decode cX12_puts 14 = .ok (.iastore, 1) := by decide +kernel
theorem dX12_puts_15 : decode cX12_puts 15 = .ok (.iconst 0, 1) := by decide +kernel
theorem dX12_puts_16 : decode cX12_puts 16 = .ok (.istore_n 3, 1) := by decide +kernel
theorem dX12_puts_17 : decode cX12_puts 17 = .ok (.iload_n 3, 1) := by decide +kernel
theorem dX12_puts_18 : decode cX12_puts 18 = .ok (.aload_n 0, 1) := by decide +kernel
theorem dX12_puts_19 : decode cX12_puts 19 = .ok (.getfield 175, 3) := by decide +kernel
theorem dX12_puts_22 : decode cX12_puts 22 = .ok (.if_icmp .ge 31, 3) := by decide +kernel
theorem dX12_puts_25 : decode cX12_puts 25 = .ok (.aload_n 0, 1) := by decide +kernel
theorem dX12_puts_26 : decode cX12_puts 26 = .ok (.getfield 20, 3) := by decide +kernel
theorem dX12_puts_29 : decode cX12_puts 29 = .ok (.bipush 80, 2) := by decide +kernel
theorem dX12_puts_31 : decode cX12_puts 31 = .ok (.iload_n 1, 1) := by decide +kernel
theorem dX12_puts_32 : decode cX12_puts 32 = .ok (.imul, 1) := by decide +kernel
theorem dX12_puts_33 : decode cX12_puts 33 = .ok (.bipush 8, 2) := by decide +kernel
theorem dX12_puts_35 : decode cX12_puts 35 = .ok (.iload_n 2, 1) := by decide +kernel
theorem dX12_puts_36 : decode cX12_puts 36 = .ok (.imul, 1) := by decide +kernel
theorem dX12_puts_37 : decode cX12_puts 37 = .ok (.iadd, 1) := by decide +kernel
theorem dX12_puts_38 : decode cX12_puts 38 = .ok (.iload_n 3, 1) := by decide +kernel
theorem dX12_puts_39 : decode cX12_puts 39 = .ok (.iadd, 1) := by decide +kernel
theorem dX12_puts_40 : decode cX12_puts 40 = .ok (.aload_n 0, 1) := by decide +kernel
theorem dX12_puts_41 : decode cX12_puts 41 = .ok (.getfield 75, 3) := by decide +kernel
theorem dX12_puts_44 : decode cX12_puts 44 = .ok (.iload_n 3, 1) := by decide +kernel
theorem dX12_puts_45 : decode cX12_puts 45 = .ok (.iaload, 1) := by decide +kernel
theorem dX12_puts_46 : decode cX12_puts 46 = .ok (.iastore, 1) := by decide +kernel
theorem dX12_puts_47 : decode cX12_puts 47 = .ok (.iinc 3 1, 3) := by decide +kernel
theorem dX12_puts_50 : decode cX12_puts 50 = .ok (.goto (-33), 3) := by decide +kernel
theorem dX12_puts_53 : decode cX12_puts 53 = .ok (.return_, 1) := by decide +kernel
theorem dX12_happens_0 : decode cX12_happens 0 = .ok (.aload_n 0, 1) := by decide +kernel
theorem dX12_happens_1 : decode cX12_happens 1 = .ok (.getfield 54, 3) := by decide +kernel
theorem dX12_happens_4 : decode cX12_happens 4 = .ok (.aload_n 0, 1) := by decide +kernel
theorem dX12_happens_5 : decode cX12_happens 5 = .ok (.getfield 189, 3) := by decide +kernel
theorem dX12_happens_8 : decode cX12_happens 8 = .ok (.iload_n 1, 1) := by decide +kernel
theorem dX12_happens_9 : decode cX12_happens 9 = .ok (.iastore, 1) := by decide +kernel
theorem dX12_happens_10 : decode cX12_happens 10 = .ok (.aload_n 0, 1) := by decide +kernel
theorem dX12_happens_11 : decode cX12_happens 11 = .ok (.getfield 57, 3) := by decide +kernel
theorem dX12_happens_14 : decode cX12_happens 14 = .ok (.aload_n 0, 1) := by decide +kernel
theorem dX12_happens_15 : decode cX12_happens 15 = .ok (.getfield 189, 3) := by decide +kernel
theorem dX12_happens_18 : decode cX12_happens 18 = .ok (.aload_n 0, 1) := by decide +kernel
theorem dX12_happens_19 : decode cX12_happens 19 = .ok (.getfield 137, 3) := by decide +kernel
theorem dX12_happens_22 : decode cX12_happens 22 = .ok (.iastore, 1) := by decide +kernel
theorem dX12_happens_23 : decode cX12_happens 23 = .ok (.aload_n 0, 1) := by decide +kernel
theorem dX12_happens_24 : decode cX12_happens 24 = .ok (.getfield 60, 3) := by decide +kernel
theorem dX12_happens_27 : decode cX12_happens 27 = .ok (.aload_n 0, 1) := by decide +kernel
theorem dX12_happens_28 : decode cX12_happens 28 = .ok (.getfield 189, 3) := by decide +kernel
theorem dX12_happens_31 : decode cX12_happens 31 = .ok (.iload_n 2, 1) := by decide +kernel
theorem dX12_happens_32 : decode cX12_happens 32 = .ok (.iastore, 1) := by decide +kernel
theorem dX12_happens_33 : decode cX12_happens 33 = .ok (.aload_n 0, 1) := by decide +kernel
theorem dX12_happens_34 : decode cX12_happens 34 = .ok (.getfield 63, 3) := by decide +kernel
theorem dX12_happens_37 : decode cX12_happens 37 = .ok (.aload_n 0, 1) := by decide +kernel
theorem dX12_happens_38 : decode cX12_happens 38 = .ok (.getfield 189, 3) := by decide +kernel
theorem dX12_happens_41 : decode cX12_happens 41 = .ok (.iload_n 3, 1) := by decide +kernel
theorem dX12_happens_42 : decode cX12_happens 42 = .ok (.iastore, 1) := by decide +kernel
theorem dX12_happens_43 : decode cX12_happens 43 = .ok (.aload_n 0, 1) := by decide +kernel
theorem dX12_happens_44 : decode cX12_happens 44 = .ok (.getfield 66, 3) := by decide +kernel
theorem dX12_happens_47 : decode cX12_happens 47 = .ok (.aload_n 0, 1) := by decide +kernel
theorem dX12_happens_48 : decode cX12_happens 48 = .ok (.getfield 189, 3) := by decide +kernel
theorem dX12_happens_51 : decode cX12_happens 51 = .ok (.iload 4, 2) := by decide +kernel
theorem dX12_happens_53 : decode cX12_happens 53 = .ok (.iastore, 1) := by decide +kernel
theorem dX12_happens_54 : decode cX12_happens 54 = .ok (.aload_n 0, 1) := by decide +kernel
theorem dX12_happens_55 : decode cX12_happens 55 = .ok (.dup, 1) := by decide +kernel
theorem dX12_happens_56 : decode cX12_happens 56 = .ok (.getfield 189, 3) := by decide +kernel
theorem dX12_happens_59 : decode cX12_happens 59 = .ok (.iconst 1, 1) := by decide +kernel
theorem dX12_happens_60 : decode cX12_happens 60 = .ok (.iadd, 1) := by decide +kernel
theorem dX12_happens_61 : decode cX12_happens 61 = .ok (.putfield 189, 3) := by decide +kernel
theorem dX12_happens_64 : decode cX12_happens 64 = .ok (.return_, 1) := by decide +kernel
theorem dX12_coin_0 : decode cX12_coin 0 = .ok (.aload_n 0, 1) := by decide +kernel
theorem dX12_coin_1 : decode cX12_coin 1 = .ok (.iload_n 1, 1) := by decide +kernel
theorem dX12_coin_2 : decode cX12_coin 2 = .ok (.invokevirtual 130, 3) := by decide +kernel
theorem dX12_coin_5 : decode cX12_coin 5 = .ok (.ifCond .eq 10, 3) := by decide +kernel
theorem dX12_coin_8 : decode cX12_coin 8 = .ok (.iload_n 2, 1) := by decide +kernel
theorem dX12_coin_9 : decode cX12_coin 9 = .ok (.invokestatic 134, 3) := by decide +kernel
theorem dX12_coin_12 : decode cX12_coin 12 = .ok (.ifCond .ne 5, 3) := by decide +kernel
theorem dX12_coin_15 : decode cX12_coin 15 = .ok (.iconst (-1), 1) := by decide +kernel
theorem dX12_coin_16 : decode cX12_coin 16 = .ok (.ireturn, 1) := by decide +kernel
theorem dX12_coin_17 : decode cX12_coin 17 = .ok (.aload_n 0, 1) := by decide +kernel
theorem dX12_coin_18 : decode cX12_coin 18 = .ok (.getfield 189, 3) := by decide +kernel
theorem dX12_coin_21 : decode cX12_coin 21 = .ok (.bipush 80, 2) := by decide +kernel
theorem dX12_coin_23 : decode cX12_coin 23 = .ok (.if_icmp .ne 6, 3) := by decide +kernel
theorem dX12_coin_26 : decode cX12_coin 26 = .ok (.bipush (-4), 2) := by decide +kernel
theorem dX12_coin_28 : decode cX12_coin 28 = .ok (.ireturn, 1) := by decide +kernel
theorem dX12_coin_29 : decode cX12_coin 29 = .ok (.aload_n 0, 1) := by decide +kernel
theorem dX12_coin_30 : decode cX12_coin 30 = .ok (.getfield 140, 3) := by decide +kernel
theorem dX12_coin_33 : decode cX12_coin 33 = .ok (.istore_n 3, 1) := by decide +kernel
theorem dX12_coin_34 : decode cX12_coin 34 = .ok (.aload_n 0, 1) := by decide +kernel
theorem dX12_coin_35 : decode cX12_coin 35 = .ok (.iconst 0, 1) := by decide +kernel
theorem dX12_coin_36 : decode cX12_coin 36 = .ok (.putfield 140, 3) := by decide +kernel
theorem dX12_coin_39 : decode cX12_coin 39 = .ok (.iconst 0, 1) := by decide +kernel
theorem dX12_coin_40 : decode cX12_coin 40 = .ok (.istore 4, 2) := by decide +kernel
theorem dX12_coin_42 : decode cX12_coin 42 = .ok (.iload 4, 2) := by decide +kernel
theorem dX12_coin_44 : decode cX12_coin 44 = .ok (.iload_n 3, 1) := by decide +kernel
theorem dX12_coin_45 : decode cX12_coin 45 = .ok (.if_icmp .ge 56, 3) := by decide +kernel
theorem dX12_coin_48 : decode cX12_coin 48 = .ok (.iload 4, 2) := by decide +kernel
theorem dX12_coin_50 : decode cX12_coin 50 = .ok (.bipush 8, 2) := by decide +kernel
theorem dX12_coin_52 : decode cX12_coin 52 = .ok (.if_icmp .eq 20, 3) := by decide +kernel
theorem dX12_coin_55 : decode cX12_coin 55 = .ok (.aload_n 0, 1) := by decide +kernel
theorem dX12_coin_56 : decode cX12_coin 56 = .ok (.getfield 13, 3) := by decide +kernel
theorem dX12_coin_59 : decode cX12_coin 59 = .ok (.iload 4, 2) := by decide +kernel
theorem dX12_coin_61 : decode cX12_coin 61 = .ok (.iaload, 1) := by decide +kernel
theorem dX12_coin_62 : decode cX12_coin 62 = .ok (.bipush 97, 2) := by decide +kernel
theorem dX12_coin_64 : decode cX12_coin 64 = .ok (.bipush 122, 2) := by decide +kernel
theorem dX12_coin_66 : decode cX12_coin 66 = .ok (.invokestatic 123, 3) := by decide +kernel
theorem dX12_coin_69 : decode cX12_coin 69 = .ok (.ifCond .ne 9, 3) := by decide +kernel
theorem dX12_coin_72 : decode cX12_coin 72 = .ok (.bipush (-10), 2) := by decide +kernel
theorem dX12_coin_74 : decode cX12_coin 74 = .ok (.iload 4, 2) := by decide +kernel
theorem dX12_coin_76 : decode cX12_coin 76 = .ok (.isub, 1) := by decide +kernel
theorem dX12_coin_77 : decode cX12_coin 77 = .ok (.ireturn, 1) := by decide +kernel
theorem dX12_coin_78 : decode cX12_coin 78 = .ok (.aload_n 0, 1) := by decide +kernel
theorem dX12_coin_79 : decode cX12_coin 79 = .ok (.getfield 75, 3) := by decide +kernel
theorem dX12_coin_82 : decode cX12_coin 82 = .ok (.iload 4, 2) := by decide +kernel
theorem dX12_coin_84 : decode cX12_coin 84 = .ok (.aload_n 0, 1) := by decide +kernel
theorem dX12_coin_85 : decode cX12_coin 85 = .ok (.getfield 13, 3) := by decide +kernel
theorem dX12_coin_88 : decode cX12_coin 88 = .ok (.iload 4, 2) := by decide +kernel
theorem dX12_coin_90 : decode cX12_coin 90 = .ok (.iaload, 1) := by decide +kernel
theorem dX12_coin_91 : decode cX12_coin 91 = .ok (.bipush 96, 2) := by decide +kernel
theorem dX12_coin_93 : decode cX12_coin 93 = .ok (.isub, 1) := by decide +kernel
theorem dX12_coin_94 : decode cX12_coin 94 = .ok (.iastore, 1) := by decide +kernel
theorem dX12_coin_95 : decode cX12_coin 95 = .ok (.iinc 4 1, 3) := by decide +kernel
theorem dX12_coin_98 : decode cX12_coin 98 = .ok (.goto (-56), 3) := by decide +kernel
theorem dX12_coin_101 : decode cX12_coin 101 = .ok (.iload_n 3, 1) := by decide +kernel
theorem dX12_coin_102 : decode cX12_coin 102 = .ok (.ifCond .ne 6, 3) := by decide +kernel
theorem dX12_coin_105 : decode cX12_coin 105 = .ok (.bipush (-10), 2) := by decide +kernel
theorem dX12_coin_107 : decode cX12_coin 107 = .ok (.ireturn, 1) := by decide +kernel
theorem dX12_coin_108 : decode cX12_coin 108 = .ok (.aload_n 0, 1) := by decide +kernel
theorem dX12_coin_109 : decode cX12_coin 109 = .ok (.iload_n 3, 1) := by decide +kernel
theorem dX12_coin_110 : decode cX12_coin 110 = .ok (.putfield 175, 3) := by decide +kernel
theorem dX12_coin_113 : decode cX12_coin 113 = .ok (.aload_n 0, 1) := by decide +kernel
theorem dX12_coin_114 : decode cX12_coin 114 = .ok (.iload_n 1, 1) := by decide +kernel
theorem dX12_coin_115 : decode cX12_coin 115 = .ok (.iload_n 2, 1) := by decide +kernel
theorem dX12_coin_116 : decode cX12_coin 116 = .ok (.invokevirtual 192, 3) := by decide +kernel
theorem dX12_coin_119 : decode cX12_coin 119 = .ok (.aload_n 0, 1) := by decide +kernel
theorem dX12_coin_120 : decode cX12_coin 120 = .ok (.getfield 23, 3) := by decide +kernel
theorem dX12_coin_123 : decode cX12_coin 123 = .ok (.bipush 10, 2) := by decide +kernel
theorem dX12_coin_125 : decode cX12_coin 125 = .ok (.iload_n 1, 1) := by decide +kernel
theorem dX12_coin_126 : decode cX12_coin 126 = .ok (.imul, 1) := by decide +kernel
theorem dX12_coin_127 : decode cX12_coin 127 = .ok (.iload_n 2, 1) := by decide +kernel
theorem dX12_coin_128 : decode cX12_coin 128 = .ok (.iadd, 1) := by decide +kernel
theorem dX12_coin_129 : decode cX12_coin 129 = .ok (.aload_n 0, 1) := by decide +kernel
theorem dX12_coin_130 : decode cX12_coin 130 = .ok (.getfield 196, 3) := by decide +kernel
theorem dX12_coin_133 : decode cX12_coin 133 = .ok (.iastore, 1) := by decide +kernel
theorem dX12_coin_134 : decode cX12_coin 134 = .ok (.aload_n 0, 1) := by decide +kernel
theorem dX12_coin_135 : decode cX12_coin 135 = .ok (.getfield 26, 3) := by decide +kernel
theorem dX12_coin_138 : decode cX12_coin 138 = .ok (.bipush 10, 2) := by decide +kernel
theorem dX12_coin_140 : decode cX12_coin 140 = .ok (.iload_n 1, 1) := by decide +kernel
theorem dX12_coin_141 : decode cX12_coin 141 = .ok (.imul, 1) := by decide +kernel
theorem dX12_coin_142 : decode cX12_coin 142 = .ok (.iload_n 2, 1) := by decide +kernel
theorem dX12_coin_143 : decode cX12_coin 143 = .ok (.iadd, 1) := by decide +kernel
theorem dX12_coin_144 : decode cX12_coin 144 = .ok (.iconst 0, 1) := by decide +kernel
theorem dX12_coin_145 : decode cX12_coin 145 = .ok (.bastore, 1) := by decide +kernel
theorem dX12_coin_146 : decode cX12_coin 146 = .ok (.aload_n 0, 1) := by decide +kernel
theorem dX12_coin_147 : decode cX12_coin 147 = .ok (.dup, 1) := by decide +kernel
theorem dX12_coin_148 : decode cX12_coin 148 = .ok (.getfield 196, 3) := by decide +kernel
theorem dX12_coin_151 : decode cX12_coin 151 = .ok (.iconst 1, 1) := by decide +kernel
theorem dX12_coin_152 : decode cX12_coin 152 = .ok (.iadd, 1) := by decide +kernel
theorem dX12_coin_153 : decode cX12_coin 153 = .ok (.putfield 196, 3) := by decide +kernel
theorem dX12_coin_156 : decode cX12_coin 156 = .ok (.aload_n 0, 1) := by decide +kernel
theorem dX12_coin_157 : decode cX12_coin 157 = .ok (.bipush 6, 2) := by decide +kernel
theorem dX12_coin_159 : decode cX12_coin 159 = .ok (.iload_n 1, 1) := by decide +kernel
theorem dX12_coin_160 : decode cX12_coin 160 = .ok (.bipush (-5), 2) := by decide +kernel
theorem dX12_coin_162 : decode cX12_coin 162 = .ok (.iload_n 2, 1) := by decide +kernel
theorem dX12_coin_163 : decode cX12_coin 163 = .ok (.invokevirtual 199, 3) := by decide +kernel
theorem dX12_coin_166 : decode cX12_coin 166 = .ok (.aload_n 0, 1) := by decide +kernel
theorem dX12_coin_167 : decode cX12_coin 167 = .ok (.getfield 196, 3) := by decide +kernel
theorem dX12_coin_170 : decode cX12_coin 170 = .ok (.iconst 1, 1) := by decide +kernel
theorem dX12_coin_171 : decode cX12_coin 171 = .ok (.isub, 1) := by decide +kernel
theorem dX12_coin_172 : decode cX12_coin 172 = .ok (.ireturn, 1) := by decide +kernel
theorem dX12_sound_0 : decode cX12_sound 0 = .ok (.aload_n 0, 1) := by decide +kernel
theorem dX12_sound_1 : decode cX12_sound 1 = .ok (.iload_n 1, 1) := by decide +kernel
theorem dX12_sound_2 : decode cX12_sound 2 = .ok (.invokevirtual 130, 3) := by decide +kernel
theorem dX12_sound_5 : decode cX12_sound 5 = .ok (.ifCond .eq 11, 3) := by decide +kernel
theorem dX12_sound_8 : decode cX12_sound 8 = .ok (.aload_n 0, 1) := by decide +kernel
theorem dX12_sound_9 : decode cX12_sound 9 = .ok (.iload_n 2, 1) := by decide +kernel
theorem dX12_sound_10 : decode cX12_sound 10 = .ok (.invokevirtual 203, 3) := by decide +kernel
theorem dX12_sound_13 : decode cX12_sound 13 = .ok (.ifCond .ne 5, 3) := by decide +kernel
theorem dX12_sound_16 : decode cX12_sound 16 = .ok (.iconst (-1), 1) := by decide +kernel
theorem dX12_sound_17 : decode cX12_sound 17 = .ok (.ireturn, 1) := by decide +kernel
theorem dX12_sound_18 : decode cX12_sound 18 = .ok (.aload_n 0, 1) := by decide +kernel
theorem dX12_sound_19 : decode cX12_sound 19 = .ok (.getfield 189, 3) := by decide +kernel
theorem dX12_sound_22 : decode cX12_sound 22 = .ok (.bipush 80, 2) := by decide +kernel
theorem dX12_sound_24 : decode cX12_sound 24 = .ok (.if_icmp .ne 6, 3) := by decide +kernel
theorem dX12_sound_27 : decode cX12_sound 27 = .ok (.bipush (-4), 2) := by decide +kernel
theorem dX12_sound_29 : decode cX12_sound 29 = .ok (.ireturn, 1) := by decide +kernel
theorem dX12_sound_30 : decode cX12_sound 30 = .ok (.iconst 0, 1) := by decide +kernel
theorem dX12_sound_31 : decode cX12_sound 31 = .ok (.istore_n 3, 1) := by decide +kernel
theorem dX12_sound_32 : decode cX12_sound 32 = .ok (.iconst 0, 1) := by decide +kernel
theorem dX12_sound_33 : decode cX12_sound 33 = .ok (.istore 4, 2) := by decide +kernel
theorem dX12_sound_35 : decode cX12_sound 35 = .ok (.iload 4, 2) := by decide +kernel
theorem dX12_sound_37 : decode cX12_sound 37 = .ok (.bipush 10, 2) := by decide +kernel
theorem dX12_sound_39 : decode cX12_sound 39 = .ok (.if_icmp .ge 56, 3) := by decide +kernel
theorem dX12_sound_42 : decode cX12_sound 42 = .ok (.aload_n 0, 1) := by decide +kernel
theorem dX12_sound_43 : decode cX12_sound 43 = .ok (.iload_n 1, 1) := by decide +kernel
theorem dX12_sound_44 : decode cX12_sound 44 = .ok (.iload 4, 2) := by decide +kernel
theorem dX12_sound_46 : decode cX12_sound 46 = .ok (.invokevirtual 206, 3) := by decide +kernel
theorem dX12_sound_49 : decode cX12_sound 49 = .ok (.ifCond .eq 40, 3) := by decide +kernel
theorem dX12_sound_52 : decode cX12_sound 52 = .ok (.aload_n 0, 1) := by decide +kernel
theorem dX12_sound_53 : decode cX12_sound 53 = .ok (.iload_n 1, 1) := by decide +kernel
theorem dX12_sound_54 : decode cX12_sound 54 = .ok (.iload 4, 2) := by decide +kernel
theorem dX12_sound_56 : decode cX12_sound 56 = .ok (.invokevirtual 209, 3) := by decide +kernel
theorem dX12_sound_59 : decode cX12_sound 59 = .ok (.aload_n 0, 1) := by decide +kernel
theorem dX12_sound_60 : decode cX12_sound 60 = .ok (.iload_n 2, 1) := by decide +kernel
theorem dX12_sound_61 : decode cX12_sound 61 = .ok (.invokevirtual 212, 3) := by decide +kernel
theorem dX12_sound_64 : decode cX12_sound 64 = .ok (.iload_n 3, 1) := by decide +kernel
theorem dX12_sound_65 : decode cX12_sound 65 = .ok (.aload_n 0, 1) := by decide +kernel
theorem dX12_sound_66 : decode cX12_sound 66 = .ok (.iload_n 1, 1) := by decide +kernel
theorem dX12_sound_67 : decode cX12_sound 67 = .ok (.iload 4, 2) := by decide +kernel
theorem dX12_sound_69 : decode cX12_sound 69 = .ok (.invokevirtual 215, 3) := by decide +kernel
theorem dX12_sound_72 : decode cX12_sound 72 = .ok (.ifCond .eq 7, 3) := by decide +kernel
theorem dX12_sound_75 : decode cX12_sound 75 = .ok (.iconst 0, 1) := by decide +kernel
theorem dX12_sound_76 : decode cX12_sound 76 = .ok (.goto 4, 3) := by decide +kernel
theorem dX12_sound_79 : decode cX12_sound 79 = .ok (.iconst 1, 1) := by decide +kernel
theorem dX12_sound_80 : decode cX12_sound 80 = .ok (.iadd, 1) := by decide +kernel
theorem dX12_sound_81 : decode cX12_sound 81 = .ok (.istore_n 3, 1) := by decide +kernel
theorem dX12_sound_82 : decode cX12_sound 82 = .ok (.aload_n 0, 1) := by decide +kernel
theorem dX12_sound_83 : decode cX12_sound 83 = .ok (.iload_n 1, 1) := by decide +kernel
theorem dX12_sound_84 : decode cX12_sound 84 = .ok (.iload 4, 2) := by decide +kernel
theorem dX12_sound_86 : decode cX12_sound 86 = .ok (.invokevirtual 192, 3) := by decide +kernel
theorem dX12_sound_89 : decode cX12_sound 89 = .ok (.iinc 4 1, 3) := by decide +kernel
theorem dX12_sound_92 : decode cX12_sound 92 = .ok (.goto (-57), 3) := by decide +kernel
theorem dX12_sound_95 : decode cX12_sound 95 = .ok (.aload_n 0, 1) := by decide +kernel
theorem dX12_sound_96 : decode cX12_sound 96 = .ok (.iconst 1, 1) := by decide +kernel
theorem dX12_sound_97 : decode cX12_sound 97 = .ok (.iload_n 1, 1) := by decide +kernel
theorem dX12_sound_98 : decode cX12_sound 98 = .ok (.iload_n 2, 1) := by decide +kernel
theorem dX12_sound_99 : decode cX12_sound 99 = .ok (.bipush (-5), 2) := by decide +kernel
theorem dX12_sound_101 : decode cX12_sound 101 = .ok (.invokevirtual 199, 3) := by decide +kernel
theorem dX12_sound_104 : decode cX12_sound 104 = .ok (.iload_n 3, 1) := by decide +kernel
theorem dX12_sound_105 : decode cX12_sound 105 = .ok (.ireturn, 1) := by decide +kernel
theorem dX12_shorten_0 : decode cX12_shorten 0 = .ok (.aload_n 0, 1) := by decide +kernel
theorem dX12_shorten_1 : decode cX12_shorten 1 = .ok (.iload_n 1, 1) := by decide +kernel
theorem dX12_shorten_2 : decode cX12_shorten 2 = .ok (.iload_n 2, 1) := by decide +kernel
theorem dX12_shorten_3 : decode cX12_shorten 3 = .ok (.invokevirtual 206, 3) := by decide +kernel
theorem dX12_shorten_6 : decode cX12_shorten 6 = .ok (.ifCond .ne 5, 3) := by decide +kernel
theorem dX12_shorten_9 : decode cX12_shorten 9 = .ok (.iconst (-1), 1) := by decide +kernel
theorem dX12_shorten_10 : decode cX12_shorten 10 = .ok (.ireturn, 1) := by decide +kernel
theorem dX12_shorten_11 : decode cX12_shorten 11 = .ok (.aload_n 0, 1) := by decide +kernel
theorem dX12_shorten_12 : decode cX12_shorten 12 = .ok (.getfield 17, 3) := by decide +kernel
theorem dX12_shorten_15 : decode cX12_shorten 15 = .ok (.bipush 10, 2) := by decide +kernel
theorem dX12_shorten_17 : decode cX12_shorten 17 = .ok (.iload_n 1, 1) := by decide +kernel
theorem dX12_shorten_18 : decode cX12_shorten 18 = .ok (.imul, 1) := by decide +kernel
theorem dX12_shorten_19 : decode cX12_shorten 19 = .ok (.iload_n 2, 1) := by decide +kernel
theorem dX12_shorten_20 : decode cX12_shorten 20 = .ok (.iadd, 1) := by decide +kernel
theorem dX12_shorten_21 : decode cX12_shorten 21 = .ok (.iaload, 1) := by decide +kernel
theorem dX12_shorten_22 : decode cX12_shorten 22 = .ok (.iconst 1, 1) := by decide +kernel
theorem dX12_shorten_23 : decode cX12_shorten 23 = .ok (.if_icmp .ne 6, 3) := by decide +kernel
theorem dX12_shorten_26 : decode cX12_shorten 26 = .ok (.bipush (-3), 2) := by decide +kernel
theorem dX12_shorten_28 : decode cX12_shorten 28 = .ok (.ireturn, 1) := by decide +kernel
theorem dX12_shorten_29 : decode cX12_shorten 29 = .ok (.aload_n 0, 1) := by decide +kernel
theorem dX12_shorten_30 : decode cX12_shorten 30 = .ok (.getfield 189, 3) := by decide +kernel
theorem dX12_shorten_33 : decode cX12_shorten 33 = .ok (.bipush 80, 2) := by decide +kernel
theorem dX12_shorten_35 : decode cX12_shorten 35 = .ok (.if_icmp .ne 6, 3) := by decide +kernel
theorem dX12_shorten_38 : decode cX12_shorten 38 = .ok (.bipush (-4), 2) := by decide +kernel
theorem dX12_shorten_40 : decode cX12_shorten 40 = .ok (.ireturn, 1) := by decide +kernel
theorem dX12_shorten_41 : decode cX12_shorten 41 = .ok (.aload_n 0, 1) := by decide +kernel
theorem dX12_shorten_42 : decode cX12_shorten 42 = .ok (.getfield 17, 3) := by decide +kernel
theorem dX12_shorten_45 : decode cX12_shorten 45 = .ok (.bipush 10, 2) := by decide +kernel
theorem dX12_shorten_47 : decode cX12_shorten 47 = .ok (.iload_n 1, 1) := by decide +kernel
theorem dX12_shorten_48 : decode cX12_shorten 48 = .ok (.imul, 1) := by decide +kernel
theorem dX12_shorten_49 : decode cX12_shorten 49 = .ok (.iload_n 2, 1) := by decide +kernel
theorem dX12_shorten_50 : decode cX12_shorten 50 = .ok (.iadd, 1) := by decide +kernel
theorem dX12_shorten_51 : decode cX12_shorten 51 = .ok (.dup2, 1) := by decide +kernel
theorem dX12_shorten_52 : decode cX12_shorten 52 = .ok (.iaload, 1) := by decide +kernel
theorem dX12_shorten_53 : decode cX12_shorten 53 = .ok (.iconst 1, 1) := by decide +kernel
theorem dX12_shorten_54 : decode cX12_shorten 54 = .ok (.isub, 1) := by decide +kernel
theorem dX12_shorten_55 : decode cX12_shorten 55 = .ok (.iastore, 1) := by decide +kernel
theorem dX12_shorten_56 : decode cX12_shorten 56 = .ok (.aload_n 0, 1) := by decide +kernel
theorem dX12_shorten_57 : decode cX12_shorten 57 = .ok (.iconst 4, 1) := by decide +kernel
theorem dX12_shorten_58 : decode cX12_shorten 58 = .ok (.iload_n 1, 1) := by decide +kernel
theorem dX12_shorten_59 : decode cX12_shorten 59 = .ok (.bipush (-5), 2) := by decide +kernel
theorem dX12_shorten_61 : decode cX12_shorten 61 = .ok (.iload_n 2, 1) := by decide +kernel
theorem dX12_shorten_62 : decode cX12_shorten 62 = .ok (.invokevirtual 199, 3) := by decide +kernel
theorem dX12_shorten_65 : decode cX12_shorten 65 = .ok (.aload_n 0, 1) := by decide +kernel
theorem dX12_shorten_66 : decode cX12_shorten 66 = .ok (.getfield 17, 3) := by decide +kernel
theorem dX12_shorten_69 : decode cX12_shorten 69 = .ok (.bipush 10, 2) := by decide +kernel
theorem dX12_shorten_71 : decode cX12_shorten 71 = .ok (.iload_n 1, 1) := by decide +kernel
theorem dX12_shorten_72 : decode cX12_shorten 72 = .ok (.imul, 1) := by decide +kernel
theorem dX12_shorten_73 : decode cX12_shorten 73 = .ok (.iload_n 2, 1) := by decide +kernel
theorem dX12_shorten_74 : decode cX12_shorten 74 = .ok (.iadd, 1) := by decide +kernel
theorem dX12_shorten_75 : decode cX12_shorten 75 = .ok (.iaload, 1) := by decide +kernel
theorem dX12_shorten_76 : decode cX12_shorten 76 = .ok (.ireturn, 1) := by decide +kernel
theorem dX12_loan_0 : decode cX12_loan 0 = .ok (.aload_n 0, 1) := by decide +kernel
theorem dX12_loan_1 : decode cX12_loan 1 = .ok (.iload_n 2, 1) := by decide +kernel
theorem dX12_loan_2 : decode cX12_loan 2 = .ok (.iload_n 1, 1) := by decide +kernel
theorem dX12_loan_3 : decode cX12_loan 3 = .ok (.invokevirtual 206, 3) := by decide +kernel
theorem dX12_loan_6 : decode cX12_loan 6 = .ok (.ifCond .eq 11, 3) := by decide +kernel
theorem dX12_loan_9 : decode cX12_loan 9 = .ok (.aload_n 0, 1) := by decide +kernel
theorem dX12_loan_10 : decode cX12_loan 10 = .ok (.iload_n 3, 1) := by decide +kernel
theorem dX12_loan_11 : decode cX12_loan 11 = .ok (.invokevirtual 130, 3) := by decide +kernel
theorem dX12_loan_14 : decode cX12_loan 14 = .ok (.ifCond .ne 5, 3) := by decide +kernel
theorem dX12_loan_17 : decode cX12_loan 17 = .ok (.iconst (-1), 1) := by decide +kernel
theorem dX12_loan_18 : decode cX12_loan 18 = .ok (.ireturn, 1) := by decide +kernel
theorem dX12_loan_19 : decode cX12_loan 19 = .ok (.iload_n 2, 1) := by decide +kernel
theorem dX12_loan_20 : decode cX12_loan 20 = .ok (.iload_n 3, 1) := by decide +kernel
theorem dX12_loan_21 : decode cX12_loan 21 = .ok (.if_icmp .ne 6, 3) := by decide +kernel
theorem dX12_loan_24 : decode cX12_loan 24 = .ok (.bipush (-2), 2) := by decide +kernel
theorem dX12_loan_26 : decode cX12_loan 26 = .ok (.ireturn, 1) := by decide +kernel
theorem dX12_loan_27 : decode cX12_loan 27 = .ok (.aload_n 0, 1) := by decide +kernel
theorem dX12_loan_28 : decode cX12_loan 28 = .ok (.getfield 189, 3) := by decide +kernel
theorem dX12_loan_31 : decode cX12_loan 31 = .ok (.bipush 80, 2) := by decide +kernel
theorem dX12_loan_33 : decode cX12_loan 33 = .ok (.if_icmp .ne 6, 3) := by decide +kernel
theorem dX12_loan_36 : decode cX12_loan 36 = .ok (.bipush (-4), 2) := by decide +kernel
theorem dX12_loan_38 : decode cX12_loan 38 = .ok (.ireturn, 1) := by decide +kernel
theorem dX12_loan_39 : decode cX12_loan 39 = .ok (.aload_n 0, 1) := by decide +kernel
theorem dX12_loan_40 : decode cX12_loan 40 = .ok (.iload_n 2, 1) := by decide +kernel
theorem dX12_loan_41 : decode cX12_loan 41 = .ok (.iload_n 1, 1) := by decide +kernel
theorem dX12_loan_42 : decode cX12_loan 42 = .ok (.invokevirtual 209, 3) := by decide +kernel
theorem dX12_loan_45 : decode cX12_loan 45 = .ok (.aload_n 0, 1) := by decide +kernel
theorem dX12_loan_46 : decode cX12_loan 46 = .ok (.iload_n 3, 1) := by decide +kernel
theorem dX12_loan_47 : decode cX12_loan 47 = .ok (.iload_n 1, 1) := by decide +kernel
theorem dX12_loan_48 : decode cX12_loan 48 = .ok (.invokevirtual 192, 3) := by decide +kernel
theorem dX12_loan_51 : decode cX12_loan 51 = .ok (.aload_n 0, 1) := by decide +kernel
theorem dX12_loan_52 : decode cX12_loan 52 = .ok (.getfield 23, 3) := by decide +kernel
theorem dX12_loan_55 : decode cX12_loan 55 = .ok (.bipush 10, 2) := by decide +kernel
theorem dX12_loan_57 : decode cX12_loan 57 = .ok (.iload_n 3, 1) := by decide +kernel
theorem dX12_loan_58 : decode cX12_loan 58 = .ok (.imul, 1) := by decide +kernel
theorem dX12_loan_59 : decode cX12_loan 59 = .ok (.iload_n 1, 1) := by decide +kernel
theorem dX12_loan_60 : decode cX12_loan 60 = .ok (.iadd, 1) := by decide +kernel
theorem dX12_loan_61 : decode cX12_loan 61 = .ok (.aload_n 0, 1) := by decide +kernel
theorem dX12_loan_62 : decode cX12_loan 62 = .ok (.getfield 23, 3) := by decide +kernel
theorem dX12_loan_65 : decode cX12_loan 65 = .ok (.bipush 10, 2) := by decide +kernel
theorem dX12_loan_67 : decode cX12_loan 67 = .ok (.iload_n 2, 1) := by decide +kernel
theorem dX12_loan_68 : decode cX12_loan 68 = .ok (.imul, 1) := by decide +kernel
theorem dX12_loan_69 : decode cX12_loan 69 = .ok (.iload_n 1, 1) := by decide +kernel
theorem dX12_loan_70 : decode cX12_loan 70 = .ok (.iadd, 1) := by decide +kernel
theorem dX12_loan_71 : decode cX12_loan 71 = .ok (.iaload, 1) := by decide +kernel
theorem dX12_loan_72 : decode cX12_loan 72 = .ok (.iastore, 1) := by decide +kernel
theorem dX12_loan_73 : decode cX12_loan 73 = .ok (.aload_n 0, 1) := by decide +kernel
theorem dX12_loan_74 : decode cX12_loan 74 = .ok (.getfield 26, 3) := by decide +kernel
theorem dX12_loan_77 : decode cX12_loan 77 = .ok (.bipush 10, 2) := by decide +kernel
theorem dX12_loan_79 : decode cX12_loan 79 = .ok (.iload_n 3, 1) := by decide +kernel
theorem dX12_loan_80 : decode cX12_loan 80 = .ok (.imul, 1) := by decide +kernel
theorem dX12_loan_81 : decode cX12_loan 81 = .ok (.iload_n 1, 1) := by decide +kernel
theorem dX12_loan_82 : decode cX12_loan 82 = .ok (.iadd, 1) := by decide +kernel
theorem dX12_loan_83 : decode cX12_loan 83 = .ok (.iconst 1, 1) := by decide +kernel
theorem dX12_loan_84 : decode cX12_loan 84 = .ok (.bastore, 1) := by decide +kernel
theorem dX12_loan_85 : decode cX12_loan 85 = .ok (.aload_n 0, 1) := by decide +kernel
theorem dX12_loan_86 : decode cX12_loan 86 = .ok (.iconst 2, 1) := by decide +kernel
theorem dX12_loan_87 : decode cX12_loan 87 = .ok (.iload_n 3, 1) := by decide +kernel
theorem dX12_loan_88 : decode cX12_loan 88 = .ok (.bipush (-5), 2) := by decide +kernel
theorem dX12_loan_90 : decode cX12_loan 90 = .ok (.iload_n 1, 1) := by decide +kernel
theorem dX12_loan_91 : decode cX12_loan 91 = .ok (.invokevirtual 199, 3) := by decide +kernel
theorem dX12_loan_94 : decode cX12_loan 94 = .ok (.aload_n 0, 1) := by decide +kernel
theorem dX12_loan_95 : decode cX12_loan 95 = .ok (.getfield 23, 3) := by decide +kernel
theorem dX12_loan_98 : decode cX12_loan 98 = .ok (.bipush 10, 2) := by decide +kernel
theorem dX12_loan_100 : decode cX12_loan 100 = .ok (.iload_n 3, 1) := by decide +kernel
theorem dX12_loan_101 : decode cX12_loan 101 = .ok (.imul, 1) := by decide +kernel
theorem dX12_loan_102 : decode cX12_loan 102 = .ok (.iload_n 1, 1) := by decide +kernel
theorem dX12_loan_103 : decode cX12_loan 103 = .ok (.iadd, 1) := by decide +kernel
theorem dX12_loan_104 : decode cX12_loan 104 = .ok (.iaload, 1) := by decide +kernel
theorem dX12_loan_105 : decode cX12_loan 105 = .ok (.ireturn, 1) := by decide +kernel
theorem dX12_forget_0 : decode cX12_forget 0 = .ok (.aload_n 0, 1) := by decide +kernel
theorem dX12_forget_1 : decode cX12_forget 1 = .ok (.iload_n 1, 1) := by decide +kernel
theorem dX12_forget_2 : decode cX12_forget 2 = .ok (.iload_n 2, 1) := by decide +kernel
theorem dX12_forget_3 : decode cX12_forget 3 = .ok (.invokevirtual 206, 3) := by decide +kernel
theorem dX12_forget_6 : decode cX12_forget 6 = .ok (.ifCond .ne 5, 3) := by decide +kernel
theorem dX12_forget_9 : decode cX12_forget 9 = .ok (.iconst (-1), 1) := by decide +kernel
theorem dX12_forget_10 : decode cX12_forget 10 = .ok (.ireturn, 1) := by decide +kernel
theorem dX12_forget_11 : decode cX12_forget 11 = .ok (.aload_n 0, 1) := by decide +kernel
theorem dX12_forget_12 : decode cX12_forget 12 = .ok (.getfield 189, 3) := by decide +kernel
theorem dX12_forget_15 : decode cX12_forget 15 = .ok (.bipush 80, 2) := by decide +kernel
theorem dX12_forget_17 : decode cX12_forget 17 = .ok (.if_icmp .ne 6, 3) := by decide +kernel
theorem dX12_forget_20 : decode cX12_forget 20 = .ok (.bipush (-4), 2) := by decide +kernel
theorem dX12_forget_22 : decode cX12_forget 22 = .ok (.ireturn, 1) := by decide +kernel
theorem dX12_forget_23 : decode cX12_forget 23 = .ok (.aload_n 0, 1) := by decide +kernel
theorem dX12_forget_24 : decode cX12_forget 24 = .ok (.getfield 17, 3) := by decide +kernel
theorem dX12_forget_27 : decode cX12_forget 27 = .ok (.bipush 10, 2) := by decide +kernel
theorem dX12_forget_29 : decode cX12_forget 29 = .ok (.iload_n 1, 1) := by decide +kernel
theorem dX12_forget_30 : decode cX12_forget 30 = .ok (.imul, 1) := by decide +kernel
theorem dX12_forget_31 : decode cX12_forget 31 = .ok (.iload_n 2, 1) := by decide +kernel
theorem dX12_forget_32 : decode cX12_forget 32 = .ok (.iadd, 1) := by decide +kernel
theorem dX12_forget_33 : decode cX12_forget 33 = .ok (.iconst 0, 1) := by decide +kernel
theorem dX12_forget_34 : decode cX12_forget 34 = .ok (.iastore, 1) := by decide +kernel
theorem dX12_forget_35 : decode cX12_forget 35 = .ok (.aload_n 0, 1) := by decide +kernel
theorem dX12_forget_36 : decode cX12_forget 36 = .ok (.iconst 5, 1) := by decide +kernel
theorem dX12_forget_37 : decode cX12_forget 37 = .ok (.iload_n 1, 1) := by decide +kernel
theorem dX12_forget_38 : decode cX12_forget 38 = .ok (.bipush (-5), 2) := by decide +kernel
theorem dX12_forget_40 : decode cX12_forget 40 = .ok (.iload_n 2, 1) := by decide +kernel
theorem dX12_forget_41 : decode cX12_forget 41 = .ok (.invokevirtual 199, 3) := by decide +kernel
theorem dX12_forget_44 : decode cX12_forget 44 = .ok (.aload_n 0, 1) := by decide +kernel
theorem dX12_forget_45 : decode cX12_forget 45 = .ok (.getfield 23, 3) := by decide +kernel
theorem dX12_forget_48 : decode cX12_forget 48 = .ok (.bipush 10, 2) := by decide +kernel
theorem dX12_forget_50 : decode cX12_forget 50 = .ok (.iload_n 1, 1) := by decide +kernel
theorem dX12_forget_51 : decode cX12_forget 51 = .ok (.imul, 1) := by decide +kernel
theorem dX12_forget_52 : decode cX12_forget 52 = .ok (.iload_n 2, 1) := by decide +kernel
theorem dX12_forget_53 : decode cX12_forget 53 = .ok (.iadd, 1) := by decide +kernel
theorem dX12_forget_54 : decode cX12_forget 54 = .ok (.iaload, 1) := by decide +kernel
theorem dX12_forget_55 : decode cX12_forget 55 = .ok (.ireturn, 1) := by decide +kernel
theorem dX12_split_0 : decode cX12_split 0 = .ok (.aload_n 0, 1) := by decide +kernel
theorem dX12_split_1 : decode cX12_split 1 = .ok (.iload_n 1, 1) := by decide +kernel
theorem dX12_split_2 : decode cX12_split 2 = .ok (.invokevirtual 130, 3) := by decide +kernel
theorem dX12_split_5 : decode cX12_split 5 = .ok (.ifCond .ne 5, 3) := by decide +kernel
theorem dX12_split_8 : decode cX12_split 8 = .ok (.iconst (-1), 1) := by decide +kernel
theorem dX12_split_9 : decode cX12_split 9 = .ok (.ireturn, 1) := by decide +kernel
theorem dX12_split_10 : decode cX12_split 10 = .ok (.aload_n 0, 1) := by decide +kernel
theorem dX12_split_11 : decode cX12_split 11 = .ok (.getfield 120, 3) := by decide +kernel
theorem dX12_split_14 : decode cX12_split 14 = .ok (.bipush 6, 2) := by decide +kernel
theorem dX12_split_16 : decode cX12_split 16 = .ok (.if_icmp .eq 12, 3) := by decide +kernel
theorem dX12_split_19 : decode cX12_split 19 = .ok (.aload_n 0, 1) := by decide +kernel
theorem dX12_split_20 : decode cX12_split 20 = .ok (.getfield 189, 3) := by decide +kernel
theorem dX12_split_23 : decode cX12_split 23 = .ok (.bipush 80, 2) := by decide +kernel
theorem dX12_split_25 : decode cX12_split 25 = .ok (.if_icmp .ne 6, 3) := by decide +kernel
theorem dX12_split_28 : decode cX12_split 28 = .ok (.bipush (-4), 2) := by decide +kernel
theorem dX12_split_30 : decode cX12_split 30 = .ok (.ireturn, 1) := by decide +kernel
theorem dX12_split_31 : decode cX12_split 31 = .ok (.aload_n 0, 1) := by decide +kernel
theorem dX12_split_32 : decode cX12_split 32 = .ok (.getfield 120, 3) := by decide +kernel
theorem dX12_split_35 : decode cX12_split 35 = .ok (.istore_n 2, 1) := by decide +kernel
theorem dX12_split_36 : decode cX12_split 36 = .ok (.iconst 0, 1) := by decide +kernel
theorem dX12_split_37 : decode cX12_split 37 = .ok (.istore_n 3, 1) := by decide +kernel
theorem dX12_split_38 : decode cX12_split 38 = .ok (.iload_n 3, 1) := by decide +kernel
theorem dX12_split_39 : decode cX12_split 39 = .ok (.bipush 10, 2) := by decide +kernel
theorem dX12_split_41 : decode cX12_split 41 = .ok (.if_icmp .ge 65, 3) := by decide +kernel
theorem dX12_split_44 : decode cX12_split 44 = .ok (.aload_n 0, 1) := by decide +kernel
theorem dX12_split_45 : decode cX12_split 45 = .ok (.iload_n 1, 1) := by decide +kernel
theorem dX12_split_46 : decode cX12_split 46 = .ok (.iload_n 3, 1) := by decide +kernel
theorem dX12_split_47 : decode cX12_split 47 = .ok (.invokevirtual 209, 3) := by decide +kernel
theorem dX12_split_50 : decode cX12_split 50 = .ok (.aload_n 0, 1) := by decide +kernel
theorem dX12_split_51 : decode cX12_split 51 = .ok (.iload_n 2, 1) := by decide +kernel
theorem dX12_split_52 : decode cX12_split 52 = .ok (.iload_n 3, 1) := by decide +kernel
theorem dX12_split_53 : decode cX12_split 53 = .ok (.invokevirtual 192, 3) := by decide +kernel
theorem dX12_split_56 : decode cX12_split 56 = .ok (.aload_n 0, 1) := by decide +kernel
theorem dX12_split_57 : decode cX12_split 57 = .ok (.getfield 23, 3) := by decide +kernel
theorem dX12_split_60 : decode cX12_split 60 = .ok (.bipush 10, 2) := by decide +kernel
theorem dX12_split_62 : decode cX12_split 62 = .ok (.iload_n 2, 1) := by decide +kernel
theorem dX12_split_63 : decode cX12_split 63 = .ok (.imul, 1) := by decide +kernel
theorem dX12_split_64 : decode cX12_split 64 = .ok (.iload_n 3, 1) := by decide +kernel
theorem dX12_split_65 : decode cX12_split 65 = .ok (.iadd, 1) := by decide +kernel
theorem dX12_split_66 : decode cX12_split 66 = .ok (.aload_n 0, 1) := by decide +kernel
theorem dX12_split_67 : decode cX12_split 67 = .ok (.getfield 23, 3) := by decide +kernel
theorem dX12_split_70 : decode cX12_split 70 = .ok (.bipush 10, 2) := by decide +kernel
theorem dX12_split_72 : decode cX12_split 72 = .ok (.iload_n 1, 1) := by decide +kernel
theorem dX12_split_73 : decode cX12_split 73 = .ok (.imul, 1) := by decide +kernel
theorem dX12_split_74 : decode cX12_split 74 = .ok (.iload_n 3, 1) := by decide +kernel
theorem dX12_split_75 : decode cX12_split 75 = .ok (.iadd, 1) := by decide +kernel
theorem dX12_split_76 : decode cX12_split 76 = .ok (.iaload, 1) := by decide +kernel
theorem dX12_split_77 : decode cX12_split 77 = .ok (.iastore, 1) := by decide +kernel
theorem dX12_split_78 : decode cX12_split 78 = .ok (.aload_n 0, 1) := by decide +kernel
theorem dX12_split_79 : decode cX12_split 79 = .ok (.getfield 26, 3) := by decide +kernel
theorem dX12_split_82 : decode cX12_split 82 = .ok (.bipush 10, 2) := by decide +kernel
theorem dX12_split_84 : decode cX12_split 84 = .ok (.iload_n 2, 1) := by decide +kernel
theorem dX12_split_85 : decode cX12_split 85 = .ok (.imul, 1) := by decide +kernel
theorem dX12_split_86 : decode cX12_split 86 = .ok (.iload_n 3, 1) := by decide +kernel
theorem dX12_split_87 : decode cX12_split 87 = .ok (.iadd, 1) := by decide +kernel
theorem dX12_split_88 : decode cX12_split 88 = .ok (.aload_n 0, 1) := by decide +kernel
theorem dX12_split_89 : decode cX12_split 89 = .ok (.getfield 26, 3) := by decide +kernel
theorem dX12_split_92 : decode cX12_split 92 = .ok (.bipush 10, 2) := by decide +kernel
theorem dX12_split_94 : decode cX12_split 94 = .ok (.iload_n 1, 1) := by decide +kernel
theorem dX12_split_95 : decode cX12_split 95 = .ok (.imul, 1) := by decide +kernel
theorem dX12_split_96 : decode cX12_split 96 = .ok (.iload_n 3, 1) := by decide +kernel
theorem dX12_split_97 : decode cX12_split 97 = .ok (.iadd, 1) := by decide +kernel
theorem dX12_split_98 : decode cX12_split 98 = .ok (.baload, 1) := by decide +kernel
theorem dX12_split_99 : decode cX12_split 99 = .ok (.bastore, 1) := by decide +kernel
theorem dX12_split_100 : decode cX12_split 100 = .ok (.iinc 3 1, 3) := by decide +kernel
theorem dX12_split_103 : decode cX12_split 103 = .ok (.goto (-65), 3) := by decide +kernel
theorem dX12_split_106 : decode cX12_split 106 = .ok (.aload_n 0, 1) := by decide +kernel
theorem dX12_split_107 : decode cX12_split 107 = .ok (.getfield 33, 3) := by decide +kernel
theorem dX12_split_110 : decode cX12_split 110 = .ok (.iload_n 2, 1) := by decide +kernel
theorem dX12_split_111 : decode cX12_split 111 = .ok (.iload_n 1, 1) := by decide +kernel
theorem dX12_split_112 : decode cX12_split 112 = .ok (.iastore, 1) := by decide +kernel
theorem dX12_split_113 : decode cX12_split 113 = .ok (.aload_n 0, 1) := by decide +kernel
theorem dX12_split_114 : decode cX12_split 114 = .ok (.getfield 36, 3) := by decide +kernel
theorem dX12_split_117 : decode cX12_split 117 = .ok (.iload_n 2, 1) := by decide +kernel
theorem dX12_split_118 : decode cX12_split 118 = .ok (.aload_n 0, 1) := by decide +kernel
theorem dX12_split_119 : decode cX12_split 119 = .ok (.getfield 137, 3) := by decide +kernel
theorem dX12_split_122 : decode cX12_split 122 = .ok (.iastore, 1) := by decide +kernel
theorem dX12_split_123 : decode cX12_split 123 = .ok (.aload_n 0, 1) := by decide +kernel
theorem dX12_split_124 : decode cX12_split 124 = .ok (.dup, 1) := by decide +kernel
theorem dX12_split_125 : decode cX12_split 125 = .ok (.getfield 120, 3) := by decide +kernel
theorem dX12_split_128 : decode cX12_split 128 = .ok (.iconst 1, 1) := by decide +kernel
theorem dX12_split_129 : decode cX12_split 129 = .ok (.iadd, 1) := by decide +kernel
theorem dX12_split_130 : decode cX12_split 130 = .ok (.putfield 120, 3) := by decide +kernel
theorem dX12_split_133 : decode cX12_split 133 = .ok (.aload_n 0, 1) := by decide +kernel
theorem dX12_split_134 : decode cX12_split 134 = .ok (.iconst 3, 1) := by decide +kernel
theorem dX12_split_135 : decode cX12_split 135 = .ok (.iload_n 2, 1) := by decide +kernel
theorem dX12_split_136 : decode cX12_split 136 = .ok (.bipush (-5), 2) := by decide +kernel
theorem dX12_split_138 : decode cX12_split 138 = .ok (.bipush (-5), 2) := by decide +kernel
theorem dX12_split_140 : decode cX12_split 140 = .ok (.invokevirtual 199, 3) := by decide +kernel
theorem dX12_split_143 : decode cX12_split 143 = .ok (.iload_n 2, 1) := by decide +kernel
theorem dX12_split_144 : decode cX12_split 144 = .ok (.ireturn, 1) := by decide +kernel
theorem dX12_word_0 : decode cX12_word 0 = .ok (.aload_n 0, 1) := by decide +kernel
theorem dX12_word_1 : decode cX12_word 1 = .ok (.iload_n 1, 1) := by decide +kernel
theorem dX12_word_2 : decode cX12_word 2 = .ok (.iload_n 2, 1) := by decide +kernel
theorem dX12_word_3 : decode cX12_word 3 = .ok (.invokevirtual 206, 3) := by decide +kernel
theorem dX12_word_6 : decode cX12_word 6 = .ok (.ifCond .eq 24, 3) := by decide +kernel
theorem dX12_word_9 : decode cX12_word 9 = .ok (.iload_n 3, 1) := by decide +kernel
theorem dX12_word_10 : decode cX12_word 10 = .ok (.iconst (-1), 1) := by decide +kernel
theorem dX12_word_11 : decode cX12_word 11 = .ok (.aload_n 0, 1) := by decide +kernel
theorem dX12_word_12 : decode cX12_word 12 = .ok (.getfield 17, 3) := by decide +kernel
theorem dX12_word_15 : decode cX12_word 15 = .ok (.bipush 10, 2) := by decide +kernel
theorem dX12_word_17 : decode cX12_word 17 = .ok (.iload_n 1, 1) := by decide +kernel
theorem dX12_word_18 : decode cX12_word 18 = .ok (.imul, 1) := by decide +kernel
theorem dX12_word_19 : decode cX12_word 19 = .ok (.iload_n 2, 1) := by decide +kernel
theorem dX12_word_20 : decode cX12_word 20 = .ok (.iadd, 1) := by decide +kernel
theorem dX12_word_21 : decode cX12_word 21 = .ok (.iaload, 1) := by decide +kernel
theorem dX12_word_22 : decode cX12_word 22 = .ok (.iconst 1, 1) := by decide +kernel
theorem dX12_word_23 : decode cX12_word 23 = .ok (.isub, 1) := by decide +kernel
theorem dX12_word_24 : decode cX12_word 24 = .ok (.invokestatic 123, 3) := by decide +kernel
theorem dX12_word_27 : decode cX12_word 27 = .ok (.ifCond .ne 5, 3) := by decide +kernel
theorem dX12_word_30 : decode cX12_word 30 = .ok (.iconst (-1), 1) := by decide +kernel
theorem dX12_word_31 : decode cX12_word 31 = .ok (.ireturn, 1) := by decide +kernel
theorem dX12_word_32 : decode cX12_word 32 = .ok (.iload_n 3, 1) := by decide +kernel
theorem dX12_word_33 : decode cX12_word 33 = .ok (.iconst (-1), 1) := by decide +kernel
theorem dX12_word_34 : decode cX12_word 34 = .ok (.if_icmp .ne 17, 3) := by decide +kernel
theorem dX12_word_37 : decode cX12_word 37 = .ok (.aload_n 0, 1) := by decide +kernel
theorem dX12_word_38 : decode cX12_word 38 = .ok (.getfield 17, 3) := by decide +kernel
theorem dX12_word_41 : decode cX12_word 41 = .ok (.bipush 10, 2) := by decide +kernel
theorem dX12_word_43 : decode cX12_word 43 = .ok (.iload_n 1, 1) := by decide +kernel
theorem dX12_word_44 : decode cX12_word 44 = .ok (.imul, 1) := by decide +kernel
theorem dX12_word_45 : decode cX12_word 45 = .ok (.iload_n 2, 1) := by decide +kernel
theorem dX12_word_46 : decode cX12_word 46 = .ok (.iadd, 1) := by decide +kernel
theorem dX12_word_47 : decode cX12_word 47 = .ok (.iaload, 1) := by decide +kernel
theorem dX12_word_48 : decode cX12_word 48 = .ok (.goto 21, 3) := by decide +kernel
theorem dX12_word_51 : decode cX12_word 51 = .ok (.aload_n 0, 1) := by decide +kernel
theorem dX12_word_52 : decode cX12_word 52 = .ok (.getfield 20, 3) := by decide +kernel
theorem dX12_word_55 : decode cX12_word 55 = .ok (.bipush 80, 2) := by decide +kernel
theorem dX12_word_57 : decode cX12_word 57 = .ok (.iload_n 1, 1) := by decide +kernel
theorem dX12_word_58 : decode cX12_word 58 = .ok (.imul, 1) := by decide +kernel
theorem dX12_word_59 : decode cX12_word 59 = .ok (.bipush 8, 2) := by decide +kernel
theorem dX12_word_61 : decode cX12_word 61 = .ok (.iload_n 2, 1) := by decide +kernel
theorem dX12_word_62 : decode cX12_word 62 = .ok (.imul, 1) := by decide +kernel
theorem dX12_word_63 : decode cX12_word 63 = .ok (.iadd, 1) := by decide +kernel
theorem dX12_word_64 : decode cX12_word 64 = .ok (.iload_n 3, 1) := by decide +kernel
theorem dX12_word_65 : decode cX12_word 65 = .ok (.iadd, 1) := by decide +kernel
theorem dX12_word_66 : decode cX12_word 66 = .ok (.iaload, 1) := by decide +kernel
theorem dX12_word_67 : decode cX12_word 67 = .ok (.iconst 1, 1) := by decide +kernel
theorem dX12_word_68 : decode cX12_word 68 = .ok (.isub, 1) := by decide +kernel
theorem dX12_word_69 : decode cX12_word 69 = .ok (.ireturn, 1) := by decide +kernel
theorem dX12_open_0 : decode cX12_open 0 = .ok (.aload_n 0, 1) := by decide +kernel
theorem dX12_open_1 : decode cX12_open 1 = .ok (.getfield 218, 3) := by decide +kernel
theorem dX12_open_4 : decode cX12_open 4 = .ok (.ifCond .eq 6, 3) := by decide +kernel
theorem dX12_open_7 : decode cX12_open 7 = .ok (.bipush (-3), 2) := by decide +kernel
theorem dX12_open_9 : decode cX12_open 9 = .ok (.ireturn, 1) := by decide +kernel
theorem dX12_open_10 : decode cX12_open 10 = .ok (.aload_n 0, 1) := by decide +kernel
theorem dX12_open_11 : decode cX12_open 11 = .ok (.iconst 1, 1) := by decide +kernel
theorem dX12_open_12 : decode cX12_open 12 = .ok (.putfield 218, 3) := by decide +kernel
theorem dX12_open_15 : decode cX12_open 15 = .ok (.aload_n 0, 1) := by decide +kernel
theorem dX12_open_16 : decode cX12_open 16 = .ok (.getfield 221, 3) := by decide +kernel
theorem dX12_open_19 : decode cX12_open 19 = .ok (.ireturn, 1) := by decide +kernel
theorem dX12_truth_0 : decode cX12_truth 0 = .ok (.aload_n 0, 1) := by decide +kernel
theorem dX12_truth_1 : decode cX12_truth 1 = .ok (.iload_n 1, 1) := by decide +kernel
theorem dX12_truth_2 : decode cX12_truth 2 = .ok (.iload_n 2, 1) := by decide +kernel
theorem dX12_truth_3 : decode cX12_truth 3 = .ok (.invokevirtual 206, 3) := by decide +kernel
theorem dX12_truth_6 : decode cX12_truth 6 = .ok (.ifCond .eq 12, 3) := by decide +kernel
theorem dX12_truth_9 : decode cX12_truth 9 = .ok (.iload_n 3, 1) := by decide +kernel
theorem dX12_truth_10 : decode cX12_truth 10 = .ok (.iconst 0, 1) := by decide +kernel
theorem dX12_truth_11 : decode cX12_truth 11 = .ok (.iconst 1, 1) := by decide +kernel
theorem dX12_truth_12 : decode cX12_truth 12 = .ok (.invokestatic 123, 3) := by decide +kernel
theorem dX12_truth_15 : decode cX12_truth 15 = .ok (.ifCond .ne 5, 3) := by decide +kernel
theorem dX12_truth_18 : decode cX12_truth 18 = .ok (.iconst (-1), 1) := by decide +kernel
theorem dX12_truth_19 : decode cX12_truth 19 = .ok (.ireturn, 1) := by decide +kernel
theorem dX12_truth_20 : decode cX12_truth 20 = .ok (.aload_n 0, 1) := by decide +kernel
theorem dX12_truth_21 : decode cX12_truth 21 = .ok (.getfield 218, 3) := by decide +kernel
theorem dX12_truth_24 : decode cX12_truth 24 = .ok (.ifCond .ne 6, 3) := by decide +kernel
theorem dX12_truth_27 : decode cX12_truth 27 = .ok (.bipush (-3), 2) := by decide +kernel
theorem dX12_truth_29 : decode cX12_truth 29 = .ok (.ireturn, 1) := by decide +kernel
theorem dX12_truth_30 : decode cX12_truth 30 = .ok (.iload_n 3, 1) := by decide +kernel
theorem dX12_truth_31 : decode cX12_truth 31 = .ok (.ifCond .ne 17, 3) := by decide +kernel
theorem dX12_truth_34 : decode cX12_truth 34 = .ok (.aload_n 0, 1) := by decide +kernel
theorem dX12_truth_35 : decode cX12_truth 35 = .ok (.getfield 23, 3) := by decide +kernel
theorem dX12_truth_38 : decode cX12_truth 38 = .ok (.bipush 10, 2) := by decide +kernel
theorem dX12_truth_40 : decode cX12_truth 40 = .ok (.iload_n 1, 1) := by decide +kernel
theorem dX12_truth_41 : decode cX12_truth 41 = .ok (.imul, 1) := by decide +kernel
theorem dX12_truth_42 : decode cX12_truth 42 = .ok (.iload_n 2, 1) := by decide +kernel
theorem dX12_truth_43 : decode cX12_truth 43 = .ok (.iadd, 1) := by decide +kernel
theorem dX12_truth_44 : decode cX12_truth 44 = .ok (.iaload, 1) := by decide +kernel
theorem dX12_truth_45 : decode cX12_truth 45 = .ok (.goto 22, 3) := by decide +kernel
theorem dX12_truth_48 : decode cX12_truth 48 = .ok (.aload_n 0, 1) := by decide +kernel
theorem dX12_truth_49 : decode cX12_truth 49 = .ok (.getfield 26, 3) := by decide +kernel
theorem dX12_truth_52 : decode cX12_truth 52 = .ok (.bipush 10, 2) := by decide +kernel
theorem dX12_truth_54 : decode cX12_truth 54 = .ok (.iload_n 1, 1) := by decide +kernel
theorem dX12_truth_55 : decode cX12_truth 55 = .ok (.imul, 1) := by decide +kernel
theorem dX12_truth_56 : decode cX12_truth 56 = .ok (.iload_n 2, 1) := by decide +kernel
theorem dX12_truth_57 : decode cX12_truth 57 = .ok (.iadd, 1) := by decide +kernel
theorem dX12_truth_58 : decode cX12_truth 58 = .ok (.baload, 1) := by decide +kernel
theorem dX12_truth_59 : decode cX12_truth 59 = .ok (.ifCond .eq 7, 3) := by decide +kernel
theorem dX12_truth_62 : decode cX12_truth 62 = .ok (.iconst 1, 1) := by decide +kernel
theorem dX12_truth_63 : decode cX12_truth 63 = .ok (.goto 4, 3) := by decide +kernel
theorem dX12_truth_66 : decode cX12_truth 66 = .ok (.iconst 0, 1) := by decide +kernel
theorem dX12_truth_67 : decode cX12_truth 67 = .ok (.ireturn, 1) := by decide +kernel
theorem dX12_from_0 : decode cX12_from 0 = .ok (.aload_n 0, 1) := by decide +kernel
theorem dX12_from_1 : decode cX12_from 1 = .ok (.iload_n 1, 1) := by decide +kernel
theorem dX12_from_2 : decode cX12_from 2 = .ok (.invokevirtual 130, 3) := by decide +kernel
theorem dX12_from_5 : decode cX12_from 5 = .ok (.ifCond .eq 12, 3) := by decide +kernel
theorem dX12_from_8 : decode cX12_from 8 = .ok (.iload_n 2, 1) := by decide +kernel
theorem dX12_from_9 : decode cX12_from 9 = .ok (.iconst 0, 1) := by decide +kernel
theorem dX12_from_10 : decode cX12_from 10 = .ok (.iconst 1, 1) := by decide +kernel
theorem dX12_from_11 : decode cX12_from 11 = .ok (.invokestatic 123, 3) := by decide +kernel
theorem dX12_from_14 : decode cX12_from 14 = .ok (.ifCond .ne 5, 3) := by decide +kernel
theorem dX12_from_17 : decode cX12_from 17 = .ok (.iconst (-1), 1) := by decide +kernel
theorem dX12_from_18 : decode cX12_from 18 = .ok (.ireturn, 1) := by decide +kernel
theorem dX12_from_19 : decode cX12_from 19 = .ok (.aload_n 0, 1) := by decide +kernel
theorem dX12_from_20 : decode cX12_from 20 = .ok (.getfield 218, 3) := by decide +kernel
theorem dX12_from_23 : decode cX12_from 23 = .ok (.ifCond .ne 6, 3) := by decide +kernel
theorem dX12_from_26 : decode cX12_from 26 = .ok (.bipush (-3), 2) := by decide +kernel
theorem dX12_from_28 : decode cX12_from 28 = .ok (.ireturn, 1) := by decide +kernel
theorem dX12_from_29 : decode cX12_from 29 = .ok (.aload_n 0, 1) := by decide +kernel
theorem dX12_from_30 : decode cX12_from 30 = .ok (.getfield 33, 3) := by decide +kernel
theorem dX12_from_33 : decode cX12_from 33 = .ok (.iload_n 1, 1) := by decide +kernel
theorem dX12_from_34 : decode cX12_from 34 = .ok (.iaload, 1) := by decide +kernel
theorem dX12_from_35 : decode cX12_from 35 = .ok (.iconst (-1), 1) := by decide +kernel
theorem dX12_from_36 : decode cX12_from 36 = .ok (.if_icmp .ne 8, 3) := by decide +kernel
theorem dX12_from_39 : decode cX12_from 39 = .ok (.bipush (-5), 2) := by decide +kernel
theorem dX12_from_41 : decode cX12_from 41 = .ok (.goto 22, 3) := by decide +kernel
theorem dX12_from_44 : decode cX12_from 44 = .ok (.iload_n 2, 1) := by decide +kernel
theorem dX12_from_45 : decode cX12_from 45 = .ok (.ifCond .ne 12, 3) := by decide +kernel
theorem dX12_from_48 : decode cX12_from 48 = .ok (.aload_n 0, 1) := by decide +kernel
theorem dX12_from_49 : decode cX12_from 49 = .ok (.getfield 33, 3) := by decide +kernel
theorem dX12_from_52 : decode cX12_from 52 = .ok (.iload_n 1, 1) := by decide +kernel
theorem dX12_from_53 : decode cX12_from 53 = .ok (.iaload, 1) := by decide +kernel
theorem dX12_from_54 : decode cX12_from 54 = .ok (.goto 9, 3) := by decide +kernel
theorem dX12_from_57 : decode cX12_from 57 = .ok (.aload_n 0, 1) := by decide +kernel
theorem dX12_from_58 : decode cX12_from 58 = .ok (.getfield 36, 3) := by decide +kernel
theorem dX12_from_61 : decode cX12_from 61 = .ok (.iload_n 1, 1) := by decide +kernel
theorem dX12_from_62 : decode cX12_from 62 = .ok (.iaload, 1) := by decide +kernel
theorem dX12_from_63 : decode cX12_from 63 = .ok (.ireturn, 1) := by decide +kernel
theorem dX12_event_0 : decode cX12_event 0 = .ok (.iload_n 1, 1) := by decide +kernel
theorem dX12_event_1 : decode cX12_event 1 = .ok (.iconst 0, 1) := by decide +kernel
theorem dX12_event_2 : decode cX12_event 2 = .ok (.aload_n 0, 1) := by decide +kernel
theorem dX12_event_3 : decode cX12_event 3 = .ok (.getfield 189, 3) := by decide +kernel
theorem dX12_event_6 : decode cX12_event 6 = .ok (.iconst 1, 1) := by decide +kernel
theorem dX12_event_7 : decode cX12_event 7 = .ok (.isub, 1) := by decide +kernel
theorem dX12_event_8 : decode cX12_event 8 = .ok (.invokestatic 123, 3) := by decide +kernel
theorem dX12_event_11 : decode cX12_event 11 = .ok (.ifCond .eq 12, 3) := by decide +kernel
theorem dX12_event_14 : decode cX12_event 14 = .ok (.iload_n 2, 1) := by decide +kernel
theorem dX12_event_15 : decode cX12_event 15 = .ok (.iconst 0, 1) := by decide +kernel
theorem dX12_event_16 : decode cX12_event 16 = .ok (.iconst 4, 1) := by decide +kernel
theorem dX12_event_17 : decode cX12_event 17 = .ok (.invokestatic 123, 3) := by decide +kernel
theorem dX12_event_20 : decode cX12_event 20 = .ok (.ifCond .ne 5, 3) := by decide +kernel
theorem dX12_event_23 : decode cX12_event 23 = .ok (.iconst (-1), 1) := by decide +kernel
theorem dX12_event_24 : decode cX12_event 24 = .ok (.ireturn, 1) := by decide +kernel
theorem dX12_event_25 : decode cX12_event 25 = .ok (.aload_n 0, 1) := by decide +kernel
theorem dX12_event_26 : decode cX12_event 26 = .ok (.getfield 218, 3) := by decide +kernel
theorem dX12_event_29 : decode cX12_event 29 = .ok (.ifCond .ne 6, 3) := by decide +kernel
theorem dX12_event_32 : decode cX12_event 32 = .ok (.bipush (-3), 2) := by decide +kernel
theorem dX12_event_34 : decode cX12_event 34 = .ok (.ireturn, 1) := by decide +kernel
theorem dX12_event_35 : decode cX12_event 35 = .ok (.iload_n 2, 1) := by decide +kernel
theorem dX12_event_36 : decode cX12_event 36 = .ok (.tableswitch 60 0 3 #[32, 39, 46, 53], 32) := by decide +kernel
theorem dX12_event_68 : decode cX12_event 68 = .ok (.aload_n 0, 1) := by decide +kernel
theorem dX12_event_69 : decode cX12_event 69 = .ok (.getfield 54, 3) := by decide +kernel
theorem dX12_event_72 : decode cX12_event 72 = .ok (.iload_n 1, 1) := by decide +kernel
theorem dX12_event_73 : decode cX12_event 73 = .ok (.iaload, 1) := by decide +kernel
theorem dX12_event_74 : decode cX12_event 74 = .ok (.ireturn, 1) := by decide +kernel
theorem dX12_event_75 : decode cX12_event 75 = .ok (.aload_n 0, 1) := by decide +kernel
theorem dX12_event_76 : decode cX12_event 76 = .ok (.getfield 57, 3) := by decide +kernel
theorem dX12_event_79 : decode cX12_event 79 = .ok (.iload_n 1, 1) := by decide +kernel
theorem dX12_event_80 : decode cX12_event 80 = .ok (.iaload, 1) := by decide +kernel
theorem dX12_event_81 : decode cX12_event 81 = .ok (.ireturn, 1) := by decide +kernel
theorem dX12_event_82 : decode cX12_event 82 = .ok (.aload_n 0, 1) := by decide +kernel
theorem dX12_event_83 : decode cX12_event 83 = .ok (.getfield 60, 3) := by decide +kernel
theorem dX12_event_86 : decode cX12_event 86 = .ok (.iload_n 1, 1) := by decide +kernel
theorem dX12_event_87 : decode cX12_event 87 = .ok (.iaload, 1) := by decide +kernel
theorem dX12_event_88 : decode cX12_event 88 = .ok (.ireturn, 1) := by decide +kernel
theorem dX12_event_89 : decode cX12_event 89 = .ok (.aload_n 0, 1) := by decide +kernel
theorem dX12_event_90 : decode cX12_event 90 = .ok (.getfield 63, 3) := by decide +kernel
theorem dX12_event_93 : decode cX12_event 93 = .ok (.iload_n 1, 1) := by decide +kernel
theorem dX12_event_94 : decode cX12_event 94 = .ok (.iaload, 1) := by decide +kernel
theorem dX12_event_95 : decode cX12_event 95 = .ok (.ireturn, 1) := by decide +kernel
theorem dX12_event_96 : decode cX12_event 96 = .ok (.aload_n 0, 1) := by decide +kernel
theorem dX12_event_97 : decode cX12_event 97 = .ok (.getfield 66, 3) := by decide +kernel
theorem dX12_event_100 : decode cX12_event 100 = .ok (.iload_n 1, 1) := by decide +kernel
theorem dX12_event_101 : decode cX12_event 101 = .ok (.iaload, 1) := by decide +kernel
theorem dX12_event_102 : decode cX12_event 102 = .ok (.ireturn, 1) := by decide +kernel
theorem dX12_limit_0 : decode cX12_limit 0 = .ok (.iload_n 1, 1) := by decide +kernel
theorem dX12_limit_1 : decode cX12_limit 1 = .ok (.iconst 0, 1) := by decide +kernel
theorem dX12_limit_2 : decode cX12_limit 2 = .ok (.bipush 60, 2) := by decide +kernel
theorem dX12_limit_4 : decode cX12_limit 4 = .ok (.invokestatic 123, 3) := by decide +kernel
theorem dX12_limit_7 : decode cX12_limit 7 = .ok (.ifCond .ne 6, 3) := by decide +kernel
theorem dX12_limit_10 : decode cX12_limit 10 = .ok (.bipush (-2), 2) := by decide +kernel
theorem dX12_limit_12 : decode cX12_limit 12 = .ok (.ireturn, 1) := by decide +kernel
theorem dX12_limit_13 : decode cX12_limit 13 = .ok (.aload_n 0, 1) := by decide +kernel
theorem dX12_limit_14 : decode cX12_limit 14 = .ok (.getfield 7, 3) := by decide +kernel
theorem dX12_limit_17 : decode cX12_limit 17 = .ok (.istore_n 2, 1) := by decide +kernel
theorem dX12_limit_18 : decode cX12_limit 18 = .ok (.aload_n 0, 1) := by decide +kernel
theorem dX12_limit_19 : decode cX12_limit 19 = .ok (.iload_n 1, 1) := by decide +kernel
theorem dX12_limit_20 : decode cX12_limit 20 = .ok (.putfield 7, 3) := by decide +kernel
theorem dX12_limit_23 : decode cX12_limit 23 = .ok (.iload_n 2, 1) := by decide +kernel
theorem dX12_limit_24 : decode cX12_limit 24 = .ok (.ireturn, 1) := by decide +kernel
theorem dX12_hole_0 : decode cX12_hole 0 = .ok (.aload_n 0, 1) := by decide +kernel
theorem dX12_hole_1 : decode cX12_hole 1 = .ok (.iload_n 1, 1) := by decide +kernel
theorem dX12_hole_2 : decode cX12_hole 2 = .ok (.invokevirtual 130, 3) := by decide +kernel
theorem dX12_hole_5 : decode cX12_hole 5 = .ok (.ifCond .eq 10, 3) := by decide +kernel
theorem dX12_hole_8 : decode cX12_hole 8 = .ok (.iload_n 2, 1) := by decide +kernel
theorem dX12_hole_9 : decode cX12_hole 9 = .ok (.invokestatic 134, 3) := by decide +kernel
theorem dX12_hole_12 : decode cX12_hole 12 = .ok (.ifCond .ne 5, 3) := by decide +kernel
theorem dX12_hole_15 : decode cX12_hole 15 = .ok (.iconst (-1), 1) := by decide +kernel
theorem dX12_hole_16 : decode cX12_hole 16 = .ok (.ireturn, 1) := by decide +kernel
theorem dX12_hole_17 : decode cX12_hole 17 = .ok (.aload_n 0, 1) := by decide +kernel
theorem dX12_hole_18 : decode cX12_hole 18 = .ok (.getfield 30, 3) := by decide +kernel
theorem dX12_hole_21 : decode cX12_hole 21 = .ok (.bipush 10, 2) := by decide +kernel
theorem dX12_hole_23 : decode cX12_hole 23 = .ok (.iload_n 1, 1) := by decide +kernel
theorem dX12_hole_24 : decode cX12_hole 24 = .ok (.imul, 1) := by decide +kernel
theorem dX12_hole_25 : decode cX12_hole 25 = .ok (.iload_n 2, 1) := by decide +kernel
theorem dX12_hole_26 : decode cX12_hole 26 = .ok (.iadd, 1) := by decide +kernel
theorem dX12_hole_27 : decode cX12_hole 27 = .ok (.baload, 1) := by decide +kernel
theorem dX12_hole_28 : decode cX12_hole 28 = .ok (.ifCond .eq 7, 3) := by decide +kernel
theorem dX12_hole_31 : decode cX12_hole 31 = .ok (.iconst 1, 1) := by decide +kernel
theorem dX12_hole_32 : decode cX12_hole 32 = .ok (.goto 4, 3) := by decide +kernel
theorem dX12_hole_35 : decode cX12_hole 35 = .ok (.iconst 0, 1) := by decide +kernel
theorem dX12_hole_36 : decode cX12_hole 36 = .ok (.istore 4, 2) := by decide +kernel
theorem dX12_hole_38 : decode cX12_hole 38 = .ok (.aload_n 0, 1) := by decide +kernel
theorem dX12_hole_39 : decode cX12_hole 39 = .ok (.getfield 30, 3) := by decide +kernel
theorem dX12_hole_42 : decode cX12_hole 42 = .ok (.bipush 10, 2) := by decide +kernel
theorem dX12_hole_44 : decode cX12_hole 44 = .ok (.iload_n 1, 1) := by decide +kernel
theorem dX12_hole_45 : decode cX12_hole 45 = .ok (.imul, 1) := by decide +kernel
theorem dX12_hole_46 : decode cX12_hole 46 = .ok (.iload_n 2, 1) := by decide +kernel
theorem dX12_hole_47 : decode cX12_hole 47 = .ok (.iadd, 1) := by decide +kernel
theorem dX12_hole_48 : decode cX12_hole 48 = .ok (.iload_n 3, 1) := by decide +kernel
theorem dX12_hole_49 : decode cX12_hole 49 = .ok (.bastore, 1) := by decide +kernel
theorem dX12_hole_50 : decode cX12_hole 50 = .ok (.iload 4, 2) := by decide +kernel
theorem dX12_hole_52 : decode cX12_hole 52 = .ok (.ireturn, 1) := by decide +kernel
theorem dX12_has_0 : decode cX12_has 0 = .ok (.aload_n 0, 1) := by decide +kernel
theorem dX12_has_1 : decode cX12_has 1 = .ok (.iload_n 1, 1) := by decide +kernel
theorem dX12_has_2 : decode cX12_has 2 = .ok (.iload_n 2, 1) := by decide +kernel
theorem dX12_has_3 : decode cX12_has 3 = .ok (.invokevirtual 206, 3) := by decide +kernel
theorem dX12_has_6 : decode cX12_has 6 = .ok (.ifCond .eq 21, 3) := by decide +kernel
theorem dX12_has_9 : decode cX12_has 9 = .ok (.aload_n 0, 1) := by decide +kernel
theorem dX12_has_10 : decode cX12_has 10 = .ok (.getfield 30, 3) := by decide +kernel
theorem dX12_has_13 : decode cX12_has 13 = .ok (.bipush 10, 2) := by decide +kernel
theorem dX12_has_15 : decode cX12_has 15 = .ok (.iload_n 1, 1) := by decide +kernel
theorem dX12_has_16 : decode cX12_has 16 = .ok (.imul, 1) := by decide +kernel
theorem dX12_has_17 : decode cX12_has 17 = .ok (.iload_n 2, 1) := by decide +kernel
theorem dX12_has_18 : decode cX12_has 18 = .ok (.iadd, 1) := by decide +kernel
theorem dX12_has_19 : decode cX12_has 19 = .ok (.baload, 1) := by decide +kernel
theorem dX12_has_20 : decode cX12_has 20 = .ok (.ifCond .ne 7, 3) := by decide +kernel
theorem dX12_has_23 : decode cX12_has 23 = .ok (.iconst 1, 1) := by decide +kernel
theorem dX12_has_24 : decode cX12_has 24 = .ok (.goto 4, 3) := by decide +kernel
theorem dX12_has_27 : decode cX12_has 27 = .ok (.iconst 0, 1) := by decide +kernel
theorem dX12_has_28 : decode cX12_has 28 = .ok (.ireturn, 1) := by decide +kernel
theorem dX12_apart_0 : decode cX12_apart 0 = .ok (.iload_n 0, 1) := by decide +kernel
theorem dX12_apart_1 : decode cX12_apart 1 = .ok (.iload_n 1, 1) := by decide +kernel
theorem dX12_apart_2 : decode cX12_apart 2 = .ok (.if_icmp .ne 7, 3) := by decide +kernel
theorem dX12_apart_5 : decode cX12_apart 5 = .ok (.iconst 0, 1) := by decide +kernel
theorem dX12_apart_6 : decode cX12_apart 6 = .ok (.goto 19, 3) := by decide +kernel
theorem dX12_apart_9 : decode cX12_apart 9 = .ok (.iload_n 0, 1) := by decide +kernel
theorem dX12_apart_10 : decode cX12_apart 10 = .ok (.invokestatic 172, 3) := by decide +kernel
theorem dX12_apart_13 : decode cX12_apart 13 = .ok (.iload_n 1, 1) := by decide +kernel
theorem dX12_apart_14 : decode cX12_apart 14 = .ok (.invokestatic 172, 3) := by decide +kernel
theorem dX12_apart_17 : decode cX12_apart 17 = .ok (.if_icmp .ne 7, 3) := by decide +kernel
theorem dX12_apart_20 : decode cX12_apart 20 = .ok (.iconst 1, 1) := by decide +kernel
theorem dX12_apart_21 : decode cX12_apart 21 = .ok (.goto 4, 3) := by decide +kernel
theorem dX12_apart_24 : decode cX12_apart 24 = .ok (.iconst 3, 1) := by decide +kernel
theorem dX12_apart_25 : decode cX12_apart 25 = .ok (.ireturn, 1) := by decide +kernel
theorem dX12_costOf_0 : decode cX12_costOf 0 = .ok (.aload_n 0, 1) := by decide +kernel
theorem dX12_costOf_1 : decode cX12_costOf 1 = .ok (.getfield 17, 3) := by decide +kernel
theorem dX12_costOf_4 : decode cX12_costOf 4 = .ok (.bipush 10, 2) := by decide +kernel
theorem dX12_costOf_6 : decode cX12_costOf 6 = .ok (.iload_n 1, 1) := by decide +kernel
theorem dX12_costOf_7 : decode cX12_costOf 7 = .ok (.imul, 1) := by decide +kernel
theorem dX12_costOf_8 : decode cX12_costOf 8 = .ok (.iload_n 2, 1) := by decide +kernel
theorem dX12_costOf_9 : decode cX12_costOf 9 = .ok (.iadd, 1) := by decide +kernel
theorem dX12_costOf_10 : decode cX12_costOf 10 = .ok (.iaload, 1) := by decide +kernel
theorem dX12_costOf_11 : decode cX12_costOf 11 = .ok (.istore 5, 2) := by decide +kernel
theorem dX12_costOf_13 : decode cX12_costOf 13 = .ok (.aload_n 0, 1) := by decide +kernel
theorem dX12_costOf_14 : decode cX12_costOf 14 = .ok (.getfield 17, 3) := by decide +kernel
theorem dX12_costOf_17 : decode cX12_costOf 17 = .ok (.bipush 10, 2) := by decide +kernel
theorem dX12_costOf_19 : decode cX12_costOf 19 = .ok (.iload_n 3, 1) := by decide +kernel
theorem dX12_costOf_20 : decode cX12_costOf 20 = .ok (.imul, 1) := by decide +kernel
theorem dX12_costOf_21 : decode cX12_costOf 21 = .ok (.iload 4, 2) := by decide +kernel
theorem dX12_costOf_23 : decode cX12_costOf 23 = .ok (.iadd, 1) := by decide +kernel
theorem dX12_costOf_24 : decode cX12_costOf 24 = .ok (.iaload, 1) := by decide +kernel
theorem dX12_costOf_25 : decode cX12_costOf 25 = .ok (.istore 6, 2) := by decide +kernel
theorem dX12_costOf_27 : decode cX12_costOf 27 = .ok (.iload 5, 2) := by decide +kernel
theorem dX12_costOf_29 : decode cX12_costOf 29 = .ok (.istore 7, 2) := by decide +kernel
theorem dX12_costOf_31 : decode cX12_costOf 31 = .ok (.iload 7, 2) := by decide +kernel
theorem dX12_costOf_33 : decode cX12_costOf 33 = .ok (.ifCond .lt 230, 3) := by decide +kernel
theorem dX12_costOf_36 : decode cX12_costOf 36 = .ok (.iload 6, 2) := by decide +kernel
theorem dX12_costOf_38 : decode cX12_costOf 38 = .ok (.istore 8, 2) := by decide +kernel
theorem dX12_costOf_40 : decode cX12_costOf 40 = .ok (.iload 8, 2) := by decide +kernel
theorem dX12_costOf_42 : decode cX12_costOf 42 = .ok (.ifCond .lt 215, 3) := by decide +kernel
theorem dX12_costOf_45 : decode cX12_costOf 45 = .ok (.iload 7, 2) := by decide +kernel
theorem dX12_costOf_47 : decode cX12_costOf 47 = .ok (.iload 5, 2) := by decide +kernel
theorem dX12_costOf_49 : decode cX12_costOf 49 = .ok (.if_icmp .ne 14, 3) := by decide +kernel
theorem dX12_costOf_52 : decode cX12_costOf 52 = .ok (.iload 8, 2) := by decide +kernel
theorem dX12_costOf_54 : decode cX12_costOf 54 = .ok (.iload 6, 2) := by decide +kernel
theorem dX12_costOf_56 : decode cX12_costOf 56 = .ok (.if_icmp .ne 7, 3) := by decide +kernel
theorem dX12_costOf_59 : decode cX12_costOf 59 = .ok (.iconst 0, 1) := by decide +kernel
theorem dX12_costOf_60 : decode cX12_costOf 60 = .ok (.goto 5, 3) := by decide +kernel
theorem dX12_costOf_63 : decode cX12_costOf 63 = .ok (.ldc 224, 2) := by decide +kernel
theorem dX12_costOf_65 : decode cX12_costOf 65 = .ok (.istore 9, 2) := by decide +kernel
theorem dX12_costOf_67 : decode cX12_costOf 67 = .ok (.iload 7, 2) := by decide +kernel
theorem dX12_costOf_69 : decode cX12_costOf 69 = .ok (.iload 5, 2) := by decide +kernel
theorem dX12_costOf_71 : decode cX12_costOf 71 = .ok (.if_icmp .ge 67, 3) := by decide +kernel
theorem dX12_costOf_74 : decode cX12_costOf 74 = .ok (.iload 8, 2) := by decide +kernel
theorem dX12_costOf_76 : decode cX12_costOf 76 = .ok (.iload 6, 2) := by decide +kernel
theorem dX12_costOf_78 : decode cX12_costOf 78 = .ok (.if_icmp .ge 60, 3) := by decide +kernel
theorem dX12_costOf_81 : decode cX12_costOf 81 = .ok (.aload_n 0, 1) := by decide +kernel
theorem dX12_costOf_82 : decode cX12_costOf 82 = .ok (.getfield 20, 3) := by decide +kernel
theorem dX12_costOf_85 : decode cX12_costOf 85 = .ok (.bipush 80, 2) := by decide +kernel
theorem dX12_costOf_87 : decode cX12_costOf 87 = .ok (.iload_n 1, 1) := by decide +kernel
theorem dX12_costOf_88 : decode cX12_costOf 88 = .ok (.imul, 1) := by decide +kernel
theorem dX12_costOf_89 : decode cX12_costOf 89 = .ok (.bipush 8, 2) := by decide +kernel
theorem dX12_costOf_91 : decode cX12_costOf 91 = .ok (.iload_n 2, 1) := by decide +kernel
theorem dX12_costOf_92 : decode cX12_costOf 92 = .ok (.imul, 1) := by decide +kernel
theorem dX12_costOf_93 : decode cX12_costOf 93 = .ok (.iadd, 1) := by decide +kernel
theorem dX12_costOf_94 : decode cX12_costOf 94 = .ok (.iload 7, 2) := by decide +kernel
theorem dX12_costOf_96 : decode cX12_costOf 96 = .ok (.iadd, 1) := by decide +kernel
theorem dX12_costOf_97 : decode cX12_costOf 97 = .ok (.iaload, 1) := by decide +kernel
theorem dX12_costOf_98 : decode cX12_costOf 98 = .ok (.aload_n 0, 1) := by decide +kernel
theorem dX12_costOf_99 : decode cX12_costOf 99 = .ok (.getfield 20, 3) := by decide +kernel
theorem dX12_costOf_102 : decode cX12_costOf 102 = .ok (.bipush 80, 2) := by decide +kernel
theorem dX12_costOf_104 : decode cX12_costOf 104 = .ok (.iload_n 3, 1) := by decide +kernel
theorem dX12_costOf_105 : decode cX12_costOf 105 = .ok (.imul, 1) := by decide +kernel
theorem dX12_costOf_106 : decode cX12_costOf 106 = .ok (.bipush 8, 2) := by decide +kernel
theorem dX12_costOf_108 : decode cX12_costOf 108 = .ok (.iload 4, 2) := by decide +kernel
theorem dX12_costOf_110 : decode cX12_costOf 110 = .ok (.imul, 1) := by decide +kernel
theorem dX12_costOf_111 : decode cX12_costOf 111 = .ok (.iadd, 1) := by decide +kernel
theorem dX12_costOf_112 : decode cX12_costOf 112 = .ok (.iload 8, 2) := by decide +kernel
theorem dX12_costOf_114 : decode cX12_costOf 114 = .ok (.iadd, 1) := by decide +kernel
theorem dX12_costOf_115 : decode cX12_costOf 115 = .ok (.iaload, 1) := by decide +kernel
theorem dX12_costOf_116 : decode cX12_costOf 116 = .ok (.invokestatic 225, 3) := by decide +kernel
theorem dX12_costOf_119 : decode cX12_costOf 119 = .ok (.aload_n 0, 1) := by decide +kernel
theorem dX12_costOf_120 : decode cX12_costOf 120 = .ok (.getfield 81, 3) := by decide +kernel
theorem dX12_costOf_123 : decode cX12_costOf 123 = .ok (.bipush 9, 2) := by decide +kernel
theorem dX12_costOf_125 : decode cX12_costOf 125 = .ok (.iload 7, 2) := by decide +kernel
theorem dX12_costOf_127 : decode cX12_costOf 127 = .ok (.imul, 1) := by decide +kernel
theorem dX12_costOf_128 : decode cX12_costOf 128 = .ok (.iload 8, 2) := by decide +kernel
theorem dX12_costOf_130 : decode cX12_costOf 130 = .ok (.iadd, 1) := by decide +kernel
theorem dX12_costOf_131 : decode cX12_costOf 131 = .ok (.bipush 10, 2) := by decide +kernel
theorem dX12_costOf_133 : decode cX12_costOf 133 = .ok (.iadd, 1) := by decide +kernel
theorem dX12_costOf_134 : decode cX12_costOf 134 = .ok (.iaload, 1) := by decide +kernel
theorem dX12_costOf_135 : decode cX12_costOf 135 = .ok (.iadd, 1) := by decide +kernel
theorem dX12_costOf_136 : decode cX12_costOf 136 = .ok (.istore 9, 2) := by decide +kernel
theorem dX12_costOf_138 : decode cX12_costOf 138 = .ok (.iload 7, 2) := by decide +kernel
theorem dX12_costOf_140 : decode cX12_costOf 140 = .ok (.iload 5, 2) := by decide +kernel
theorem dX12_costOf_142 : decode cX12_costOf 142 = .ok (.if_icmp .ge 46, 3) := by decide +kernel
theorem dX12_costOf_145 : decode cX12_costOf 145 = .ok (.aload_n 0, 1) := by decide +kernel
theorem dX12_costOf_146 : decode cX12_costOf 146 = .ok (.getfield 81, 3) := by decide +kernel
theorem dX12_costOf_149 : decode cX12_costOf 149 = .ok (.bipush 9, 2) := by decide +kernel
theorem dX12_costOf_151 : decode cX12_costOf 151 = .ok (.iload 7, 2) := by decide +kernel
theorem dX12_costOf_153 : decode cX12_costOf 153 = .ok (.imul, 1) := by decide +kernel
theorem dX12_costOf_154 : decode cX12_costOf 154 = .ok (.iload 8, 2) := by decide +kernel
theorem dX12_costOf_156 : decode cX12_costOf 156 = .ok (.iadd, 1) := by decide +kernel
theorem dX12_costOf_157 : decode cX12_costOf 157 = .ok (.bipush 9, 2) := by decide +kernel
theorem dX12_costOf_159 : decode cX12_costOf 159 = .ok (.iadd, 1) := by decide +kernel
theorem dX12_costOf_160 : decode cX12_costOf 160 = .ok (.iaload, 1) := by decide +kernel
theorem dX12_costOf_161 : decode cX12_costOf 161 = .ok (.iconst 2, 1) := by decide +kernel
theorem dX12_costOf_162 : decode cX12_costOf 162 = .ok (.iadd, 1) := by decide +kernel
theorem dX12_costOf_163 : decode cX12_costOf 163 = .ok (.iload 9, 2) := by decide +kernel
theorem dX12_costOf_165 : decode cX12_costOf 165 = .ok (.if_icmp .ge 23, 3) := by decide +kernel
theorem dX12_costOf_168 : decode cX12_costOf 168 = .ok (.aload_n 0, 1) := by decide +kernel
theorem dX12_costOf_169 : decode cX12_costOf 169 = .ok (.getfield 81, 3) := by decide +kernel
theorem dX12_costOf_172 : decode cX12_costOf 172 = .ok (.bipush 9, 2) := by decide +kernel
theorem dX12_costOf_174 : decode cX12_costOf 174 = .ok (.iload 7, 2) := by decide +kernel
theorem dX12_costOf_176 : decode cX12_costOf 176 = .ok (.imul, 1) := by decide +kernel
theorem dX12_costOf_177 : decode cX12_costOf 177 = .ok (.iload 8, 2) := by decide +kernel
theorem dX12_costOf_179 : decode cX12_costOf 179 = .ok (.iadd, 1) := by decide +kernel
theorem dX12_costOf_180 : decode cX12_costOf 180 = .ok (.bipush 9, 2) := by decide +kernel
theorem dX12_costOf_182 : decode cX12_costOf 182 = .ok (.iadd, 1) := by decide +kernel
theorem dX12_costOf_183 : decode cX12_costOf 183 = .ok (.iaload, 1) := by decide +kernel
theorem dX12_costOf_184 : decode cX12_costOf 184 = .ok (.iconst 2, 1) := by decide +kernel
theorem dX12_costOf_185 : decode cX12_costOf 185 = .ok (.iadd, 1) := by decide +kernel
theorem dX12_costOf_186 : decode cX12_costOf 186 = .ok (.istore 9, 2) := by decide +kernel
theorem dX12_costOf_188 : decode cX12_costOf 188 = .ok (.iload 8, 2) := by decide +kernel
theorem dX12_costOf_190 : decode cX12_costOf 190 = .ok (.iload 6, 2) := by decide +kernel
theorem dX12_costOf_192 : decode cX12_costOf 192 = .ok (.if_icmp .ge 44, 3) := by decide +kernel
theorem dX12_costOf_195 : decode cX12_costOf 195 = .ok (.aload_n 0, 1) := by decide +kernel
theorem dX12_costOf_196 : decode cX12_costOf 196 = .ok (.getfield 81, 3) := by decide +kernel
theorem dX12_costOf_199 : decode cX12_costOf 199 = .ok (.bipush 9, 2) := by decide +kernel
theorem dX12_costOf_201 : decode cX12_costOf 201 = .ok (.iload 7, 2) := by decide +kernel
theorem dX12_costOf_203 : decode cX12_costOf 203 = .ok (.imul, 1) := by decide +kernel
theorem dX12_costOf_204 : decode cX12_costOf 204 = .ok (.iload 8, 2) := by decide +kernel
theorem dX12_costOf_206 : decode cX12_costOf 206 = .ok (.iadd, 1) := by decide +kernel
theorem dX12_costOf_207 : decode cX12_costOf 207 = .ok (.iconst 1, 1) := by decide +kernel
theorem dX12_costOf_208 : decode cX12_costOf 208 = .ok (.iadd, 1) := by decide +kernel
theorem dX12_costOf_209 : decode cX12_costOf 209 = .ok (.iaload, 1) := by decide +kernel
theorem dX12_costOf_210 : decode cX12_costOf 210 = .ok (.iconst 2, 1) := by decide +kernel
theorem dX12_costOf_211 : decode cX12_costOf 211 = .ok (.iadd, 1) := by decide +kernel
theorem dX12_costOf_212 : decode cX12_costOf 212 = .ok (.iload 9, 2) := by decide +kernel
theorem dX12_costOf_214 : decode cX12_costOf 214 = .ok (.if_icmp .ge 22, 3) := by decide +kernel
theorem dX12_costOf_217 : decode cX12_costOf 217 = .ok (.aload_n 0, 1) := by decide +kernel
theorem dX12_costOf_218 : decode cX12_costOf 218 = .ok (.getfield 81, 3) := by decide +kernel
theorem dX12_costOf_221 : decode cX12_costOf 221 = .ok (.bipush 9, 2) := by decide +kernel
theorem dX12_costOf_223 : decode cX12_costOf 223 = .ok (.iload 7, 2) := by decide +kernel
theorem dX12_costOf_225 : decode cX12_costOf 225 = .ok (.imul, 1) := by decide +kernel
theorem dX12_costOf_226 : decode cX12_costOf 226 = .ok (.iload 8, 2) := by decide +kernel
theorem dX12_costOf_228 : decode cX12_costOf 228 = .ok (.iadd, 1) := by decide +kernel
theorem dX12_costOf_229 : decode cX12_costOf 229 = .ok (.iconst 1, 1) := by decide +kernel
theorem dX12_costOf_230 : decode cX12_costOf 230 = .ok (.iadd, 1) := by decide +kernel
theorem dX12_costOf_231 : decode cX12_costOf 231 = .ok (.iaload, 1) := by decide +kernel
theorem dX12_costOf_232 : decode cX12_costOf 232 = .ok (.iconst 2, 1) := by decide +kernel
theorem dX12_costOf_233 : decode cX12_costOf 233 = .ok (.iadd, 1) := by decide +kernel
theorem dX12_costOf_234 : decode cX12_costOf 234 = .ok (.istore 9, 2) := by decide +kernel
theorem dX12_costOf_236 : decode cX12_costOf 236 = .ok (.aload_n 0, 1) := by decide +kernel
theorem dX12_costOf_237 : decode cX12_costOf 237 = .ok (.getfield 81, 3) := by decide +kernel
theorem dX12_costOf_240 : decode cX12_costOf 240 = .ok (.bipush 9, 2) := by decide +kernel
theorem dX12_costOf_242 : decode cX12_costOf 242 = .ok (.iload 7, 2) := by decide +kernel
theorem dX12_costOf_244 : decode cX12_costOf 244 = .ok (.imul, 1) := by decide +kernel
theorem dX12_costOf_245 : decode cX12_costOf 245 = .ok (.iload 8, 2) := by decide +kernel
theorem dX12_costOf_247 : decode cX12_costOf 247 = .ok (.iadd, 1) := by decide +kernel
theorem dX12_costOf_248 : decode cX12_costOf 248 = .ok (.iload 9, 2) := by decide +kernel
theorem dX12_costOf_250 : decode cX12_costOf 250 = .ok (.iastore, 1) := by decide +kernel
theorem dX12_costOf_251 : decode cX12_costOf 251 = .ok (.iinc 8 (-1), 3) := by decide +kernel
theorem dX12_costOf_254 : decode cX12_costOf 254 = .ok (.goto (-214), 3) := by decide +kernel
theorem dX12_costOf_257 : decode cX12_costOf 257 = .ok (.iinc 7 (-1), 3) := by decide +kernel
theorem dX12_costOf_260 : decode cX12_costOf 260 = .ok (.goto (-229), 3) := by decide +kernel
theorem dX12_costOf_263 : decode cX12_costOf 263 = .ok (.aload_n 0, 1) := by decide +kernel
theorem dX12_costOf_264 : decode cX12_costOf 264 = .ok (.getfield 81, 3) := by decide +kernel
theorem dX12_costOf_267 : decode cX12_costOf 267 = .ok (.iconst 0, 1) := by decide +kernel
theorem dX12_costOf_268 : decode cX12_costOf 268 = .ok (.iaload, 1) := by decide +kernel
theorem dX12_costOf_269 : decode cX12_costOf 269 = .ok (.ireturn, 1) := by decide +kernel
theorem dX12_cost_0 : decode cX12_cost 0 = .ok (.aload_n 0, 1) := by decide +kernel
theorem dX12_cost_1 : decode cX12_cost 1 = .ok (.iload_n 2, 1) := by decide +kernel
theorem dX12_cost_2 : decode cX12_cost 2 = .ok (.iload_n 1, 1) := by decide +kernel
theorem dX12_cost_3 : decode cX12_cost 3 = .ok (.invokevirtual 228, 3) := by decide +kernel
theorem dX12_cost_6 : decode cX12_cost 6 = .ok (.ifCond .eq 23, 3) := by decide +kernel
theorem dX12_cost_9 : decode cX12_cost 9 = .ok (.aload_n 0, 1) := by decide +kernel
theorem dX12_cost_10 : decode cX12_cost 10 = .ok (.iload_n 3, 1) := by decide +kernel
theorem dX12_cost_11 : decode cX12_cost 11 = .ok (.iload_n 1, 1) := by decide +kernel
theorem dX12_cost_12 : decode cX12_cost 12 = .ok (.invokevirtual 228, 3) := by decide +kernel
theorem dX12_cost_15 : decode cX12_cost 15 = .ok (.ifCond .eq 14, 3) := by decide +kernel
theorem dX12_cost_18 : decode cX12_cost 18 = .ok (.aload_n 0, 1) := by decide +kernel
theorem dX12_cost_19 : decode cX12_cost 19 = .ok (.iload_n 2, 1) := by decide +kernel
theorem dX12_cost_20 : decode cX12_cost 20 = .ok (.iload_n 1, 1) := by decide +kernel
theorem dX12_cost_21 : decode cX12_cost 21 = .ok (.iload_n 3, 1) := by decide +kernel
theorem dX12_cost_22 : decode cX12_cost 22 = .ok (.iload_n 1, 1) := by decide +kernel
theorem dX12_cost_23 : decode cX12_cost 23 = .ok (.invokevirtual 231, 3) := by decide +kernel
theorem dX12_cost_26 : decode cX12_cost 26 = .ok (.goto 4, 3) := by decide +kernel
theorem dX12_cost_29 : decode cX12_cost 29 = .ok (.iconst (-1), 1) := by decide +kernel
theorem dX12_cost_30 : decode cX12_cost 30 = .ok (.ireturn, 1) := by decide +kernel
theorem dX12_walks_0 : decode cX12_walks 0 = .ok (.aload_n 0, 1) := by decide +kernel
theorem dX12_walks_1 : decode cX12_walks 1 = .ok (.iload_n 2, 1) := by decide +kernel
theorem dX12_walks_2 : decode cX12_walks 2 = .ok (.iload_n 1, 1) := by decide +kernel
theorem dX12_walks_3 : decode cX12_walks 3 = .ok (.iload_n 3, 1) := by decide +kernel
theorem dX12_walks_4 : decode cX12_walks 4 = .ok (.iload_n 1, 1) := by decide +kernel
theorem dX12_walks_5 : decode cX12_walks 5 = .ok (.invokevirtual 231, 3) := by decide +kernel
theorem dX12_walks_8 : decode cX12_walks 8 = .ok (.istore 4, 2) := by decide +kernel
theorem dX12_walks_10 : decode cX12_walks 10 = .ok (.aload_n 0, 1) := by decide +kernel
theorem dX12_walks_11 : decode cX12_walks 11 = .ok (.getfield 17, 3) := by decide +kernel
theorem dX12_walks_14 : decode cX12_walks 14 = .ok (.bipush 10, 2) := by decide +kernel
theorem dX12_walks_16 : decode cX12_walks 16 = .ok (.iload_n 2, 1) := by decide +kernel
theorem dX12_walks_17 : decode cX12_walks 17 = .ok (.imul, 1) := by decide +kernel
theorem dX12_walks_18 : decode cX12_walks 18 = .ok (.iload_n 1, 1) := by decide +kernel
theorem dX12_walks_19 : decode cX12_walks 19 = .ok (.iadd, 1) := by decide +kernel
theorem dX12_walks_20 : decode cX12_walks 20 = .ok (.iaload, 1) := by decide +kernel
theorem dX12_walks_21 : decode cX12_walks 21 = .ok (.istore 5, 2) := by decide +kernel
theorem dX12_walks_23 : decode cX12_walks 23 = .ok (.aload_n 0, 1) := by decide +kernel
theorem dX12_walks_24 : decode cX12_walks 24 = .ok (.getfield 17, 3) := by decide +kernel
theorem dX12_walks_27 : decode cX12_walks 27 = .ok (.bipush 10, 2) := by decide +kernel
theorem dX12_walks_29 : decode cX12_walks 29 = .ok (.iload_n 3, 1) := by decide +kernel
theorem dX12_walks_30 : decode cX12_walks 30 = .ok (.imul, 1) := by decide +kernel
theorem dX12_walks_31 : decode cX12_walks 31 = .ok (.iload_n 1, 1) := by decide +kernel
theorem dX12_walks_32 : decode cX12_walks 32 = .ok (.iadd, 1) := by decide +kernel
theorem dX12_walks_33 : decode cX12_walks 33 = .ok (.iaload, 1) := by decide +kernel
theorem dX12_walks_34 : decode cX12_walks 34 = .ok (.istore 6, 2) := by decide +kernel
theorem dX12_walks_36 : decode cX12_walks 36 = .ok (.aload_n 0, 1) := by decide +kernel
theorem dX12_walks_37 : decode cX12_walks 37 = .ok (.iconst 0, 1) := by decide +kernel
theorem dX12_walks_38 : decode cX12_walks 38 = .ok (.putfield 235, 3) := by decide +kernel
theorem dX12_walks_41 : decode cX12_walks 41 = .ok (.iconst 0, 1) := by decide +kernel
theorem dX12_walks_42 : decode cX12_walks 42 = .ok (.istore 7, 2) := by decide +kernel
theorem dX12_walks_44 : decode cX12_walks 44 = .ok (.iconst 0, 1) := by decide +kernel
theorem dX12_walks_45 : decode cX12_walks 45 = .ok (.istore 8, 2) := by decide +kernel
theorem dX12_walks_47 : decode cX12_walks 47 = .ok (.iload 7, 2) := by decide +kernel
theorem dX12_walks_49 : decode cX12_walks 49 = .ok (.iload 5, 2) := by decide +kernel
theorem dX12_walks_51 : decode cX12_walks 51 = .ok (.if_icmp .lt 10, 3) := by decide +kernel
theorem dX12_walks_54 : decode cX12_walks 54 = .ok (.iload 8, 2) := by decide +kernel
theorem dX12_walks_56 : decode cX12_walks 56 = .ok (.iload 6, 2) := by decide +kernel
theorem dX12_walks_58 : decode cX12_walks 58 = .ok (.if_icmp .ge 224, 3) := by decide +kernel
theorem dX12_walks_61 : decode cX12_walks 61 = .ok (.aload_n 0, 1) := by decide +kernel
theorem dX12_walks_62 : decode cX12_walks 62 = .ok (.getfield 81, 3) := by decide +kernel
theorem dX12_walks_65 : decode cX12_walks 65 = .ok (.bipush 9, 2) := by decide +kernel
theorem dX12_walks_67 : decode cX12_walks 67 = .ok (.iload 7, 2) := by decide +kernel
theorem dX12_walks_69 : decode cX12_walks 69 = .ok (.imul, 1) := by decide +kernel
theorem dX12_walks_70 : decode cX12_walks 70 = .ok (.iload 8, 2) := by decide +kernel
theorem dX12_walks_72 : decode cX12_walks 72 = .ok (.iadd, 1) := by decide +kernel
theorem dX12_walks_73 : decode cX12_walks 73 = .ok (.iaload, 1) := by decide +kernel
theorem dX12_walks_74 : decode cX12_walks 74 = .ok (.istore 9, 2) := by decide +kernel
theorem dX12_walks_76 : decode cX12_walks 76 = .ok (.iload 7, 2) := by decide +kernel
theorem dX12_walks_78 : decode cX12_walks 78 = .ok (.iload 5, 2) := by decide +kernel
theorem dX12_walks_80 : decode cX12_walks 80 = .ok (.if_icmp .ge 23, 3) := by decide +kernel
theorem dX12_walks_83 : decode cX12_walks 83 = .ok (.aload_n 0, 1) := by decide +kernel
theorem dX12_walks_84 : decode cX12_walks 84 = .ok (.getfield 20, 3) := by decide +kernel
theorem dX12_walks_87 : decode cX12_walks 87 = .ok (.bipush 80, 2) := by decide +kernel
theorem dX12_walks_89 : decode cX12_walks 89 = .ok (.iload_n 2, 1) := by decide +kernel
theorem dX12_walks_90 : decode cX12_walks 90 = .ok (.imul, 1) := by decide +kernel
theorem dX12_walks_91 : decode cX12_walks 91 = .ok (.bipush 8, 2) := by decide +kernel
theorem dX12_walks_93 : decode cX12_walks 93 = .ok (.iload_n 1, 1) := by decide +kernel
theorem dX12_walks_94 : decode cX12_walks 94 = .ok (.imul, 1) := by decide +kernel
theorem dX12_walks_95 : decode cX12_walks 95 = .ok (.iadd, 1) := by decide +kernel
theorem dX12_walks_96 : decode cX12_walks 96 = .ok (.iload 7, 2) := by decide +kernel
theorem dX12_walks_98 : decode cX12_walks 98 = .ok (.iadd, 1) := by decide +kernel
theorem dX12_walks_99 : decode cX12_walks 99 = .ok (.iaload, 1) := by decide +kernel
theorem dX12_walks_100 : decode cX12_walks 100 = .ok (.goto 4, 3) := by decide +kernel
theorem dX12_walks_103 : decode cX12_walks 103 = .ok (.iconst 0, 1) := by decide +kernel
theorem dX12_walks_104 : decode cX12_walks 104 = .ok (.istore 10, 2) := by decide +kernel
theorem dX12_walks_106 : decode cX12_walks 106 = .ok (.iload 8, 2) := by decide +kernel
theorem dX12_walks_108 : decode cX12_walks 108 = .ok (.iload 6, 2) := by decide +kernel
theorem dX12_walks_110 : decode cX12_walks 110 = .ok (.if_icmp .ge 23, 3) := by decide +kernel
theorem dX12_walks_113 : decode cX12_walks 113 = .ok (.aload_n 0, 1) := by decide +kernel
theorem dX12_walks_114 : decode cX12_walks 114 = .ok (.getfield 20, 3) := by decide +kernel
theorem dX12_walks_117 : decode cX12_walks 117 = .ok (.bipush 80, 2) := by decide +kernel
theorem dX12_walks_119 : decode cX12_walks 119 = .ok (.iload_n 3, 1) := by decide +kernel
theorem dX12_walks_120 : decode cX12_walks 120 = .ok (.imul, 1) := by decide +kernel
theorem dX12_walks_121 : decode cX12_walks 121 = .ok (.bipush 8, 2) := by decide +kernel
theorem dX12_walks_123 : decode cX12_walks 123 = .ok (.iload_n 1, 1) := by decide +kernel
theorem dX12_walks_124 : decode cX12_walks 124 = .ok (.imul, 1) := by decide +kernel
theorem dX12_walks_125 : decode cX12_walks 125 = .ok (.iadd, 1) := by decide +kernel
theorem dX12_walks_126 : decode cX12_walks 126 = .ok (.iload 8, 2) := by decide +kernel
theorem dX12_walks_128 : decode cX12_walks 128 = .ok (.iadd, 1) := by decide +kernel
theorem dX12_walks_129 : decode cX12_walks 129 = .ok (.iaload, 1) := by decide +kernel
theorem dX12_walks_130 : decode cX12_walks 130 = .ok (.goto 4, 3) := by decide +kernel
theorem dX12_walks_133 : decode cX12_walks 133 = .ok (.iconst 0, 1) := by decide +kernel
theorem dX12_walks_134 : decode cX12_walks 134 = .ok (.istore 11, 2) := by decide +kernel
theorem dX12_walks_136 : decode cX12_walks 136 = .ok (.iload 7, 2) := by decide +kernel
theorem dX12_walks_138 : decode cX12_walks 138 = .ok (.iload 5, 2) := by decide +kernel
theorem dX12_walks_140 : decode cX12_walks 140 = .ok (.if_icmp .ge 65, 3) := by decide +kernel
theorem dX12_walks_143 : decode cX12_walks 143 = .ok (.iload 8, 2) := by decide +kernel
theorem dX12_walks_145 : decode cX12_walks 145 = .ok (.iload 6, 2) := by decide +kernel
theorem dX12_walks_147 : decode cX12_walks 147 = .ok (.if_icmp .ge 58, 3) := by decide +kernel
theorem dX12_walks_150 : decode cX12_walks 150 = .ok (.iload 10, 2) := by decide +kernel
theorem dX12_walks_152 : decode cX12_walks 152 = .ok (.iload 11, 2) := by decide +kernel
theorem dX12_walks_154 : decode cX12_walks 154 = .ok (.invokestatic 225, 3) := by decide +kernel
theorem dX12_walks_157 : decode cX12_walks 157 = .ok (.aload_n 0, 1) := by decide +kernel
theorem dX12_walks_158 : decode cX12_walks 158 = .ok (.getfield 81, 3) := by decide +kernel
theorem dX12_walks_161 : decode cX12_walks 161 = .ok (.bipush 9, 2) := by decide +kernel
theorem dX12_walks_163 : decode cX12_walks 163 = .ok (.iload 7, 2) := by decide +kernel
theorem dX12_walks_165 : decode cX12_walks 165 = .ok (.imul, 1) := by decide +kernel
theorem dX12_walks_166 : decode cX12_walks 166 = .ok (.iload 8, 2) := by decide +kernel
theorem dX12_walks_168 : decode cX12_walks 168 = .ok (.iadd, 1) := by decide +kernel
theorem dX12_walks_169 : decode cX12_walks 169 = .ok (.bipush 10, 2) := by decide +kernel
theorem dX12_walks_171 : decode cX12_walks 171 = .ok (.iadd, 1) := by decide +kernel
theorem dX12_walks_172 : decode cX12_walks 172 = .ok (.iaload, 1) := by decide +kernel
theorem dX12_walks_173 : decode cX12_walks 173 = .ok (.iadd, 1) := by decide +kernel
theorem dX12_walks_174 : decode cX12_walks 174 = .ok (.iload 9, 2) := by decide +kernel
theorem dX12_walks_176 : decode cX12_walks 176 = .ok (.if_icmp .ne 29, 3) := by decide +kernel
theorem dX12_walks_179 : decode cX12_walks 179 = .ok (.aload_n 0, 1) := by decide +kernel
theorem dX12_walks_180 : decode cX12_walks 180 = .ok (.getfield 84, 3) := by decide +kernel
theorem dX12_walks_183 : decode cX12_walks 183 = .ok (.aload_n 0, 1) := by decide +kernel
theorem dX12_walks_184 : decode cX12_walks 184 = .ok (.getfield 235, 3) := by decide +kernel
theorem dX12_walks_187 : decode cX12_walks 187 = .ok (.bipush 100, 2) := by decide +kernel
theorem dX12_walks_189 : decode cX12_walks 189 = .ok (.iload 10, 2) := by decide +kernel
theorem dX12_walks_191 : decode cX12_walks 191 = .ok (.imul, 1) := by decide +kernel
theorem dX12_walks_192 : decode cX12_walks 192 = .ok (.iload 11, 2) := by decide +kernel
theorem dX12_walks_194 : decode cX12_walks 194 = .ok (.iadd, 1) := by decide +kernel
theorem dX12_walks_195 : decode cX12_walks 195 = .ok (.iastore, 1) := by decide +kernel
theorem dX12_walks_196 : decode cX12_walks 196 = .ok (.iinc 7 1, 3) := by decide +kernel
theorem dX12_walks_199 : decode cX12_walks 199 = .ok (.iinc 8 1, 3) := by decide +kernel
theorem dX12_walks_202 : decode cX12_walks 202 = .ok (.goto 67, 3) := by decide +kernel
theorem dX12_walks_205 : decode cX12_walks 205 = .ok (.iload 7, 2) := by decide +kernel
theorem dX12_walks_207 : decode cX12_walks 207 = .ok (.iload 5, 2) := by decide +kernel
theorem dX12_walks_209 : decode cX12_walks 209 = .ok (.if_icmp .ge 46, 3) := by decide +kernel
theorem dX12_walks_212 : decode cX12_walks 212 = .ok (.aload_n 0, 1) := by decide +kernel
theorem dX12_walks_213 : decode cX12_walks 213 = .ok (.getfield 81, 3) := by decide +kernel
theorem dX12_walks_216 : decode cX12_walks 216 = .ok (.bipush 9, 2) := by decide +kernel
theorem dX12_walks_218 : decode cX12_walks 218 = .ok (.iload 7, 2) := by decide +kernel
theorem dX12_walks_220 : decode cX12_walks 220 = .ok (.imul, 1) := by decide +kernel
theorem dX12_walks_221 : decode cX12_walks 221 = .ok (.iload 8, 2) := by decide +kernel
theorem dX12_walks_223 : decode cX12_walks 223 = .ok (.iadd, 1) := by decide +kernel
theorem dX12_walks_224 : decode cX12_walks 224 = .ok (.bipush 9, 2) := by decide +kernel
theorem dX12_walks_226 : decode cX12_walks 226 = .ok (.iadd, 1) := by decide +kernel
theorem dX12_walks_227 : decode cX12_walks 227 = .ok (.iaload, 1) := by decide +kernel
theorem dX12_walks_228 : decode cX12_walks 228 = .ok (.iconst 2, 1) := by decide +kernel
theorem dX12_walks_229 : decode cX12_walks 229 = .ok (.iadd, 1) := by decide +kernel
theorem dX12_walks_230 : decode cX12_walks 230 = .ok (.iload 9, 2) := by decide +kernel
theorem dX12_walks_232 : decode cX12_walks 232 = .ok (.if_icmp .ne 23, 3) := by decide +kernel
theorem dX12_walks_235 : decode cX12_walks 235 = .ok (.aload_n 0, 1) := by decide +kernel
theorem dX12_walks_236 : decode cX12_walks 236 = .ok (.getfield 84, 3) := by decide +kernel
theorem dX12_walks_239 : decode cX12_walks 239 = .ok (.aload_n 0, 1) := by decide +kernel
theorem dX12_walks_240 : decode cX12_walks 240 = .ok (.getfield 235, 3) := by decide +kernel
theorem dX12_walks_243 : decode cX12_walks 243 = .ok (.bipush 100, 2) := by decide +kernel
theorem dX12_walks_245 : decode cX12_walks 245 = .ok (.iload 10, 2) := by decide +kernel
theorem dX12_walks_247 : decode cX12_walks 247 = .ok (.imul, 1) := by decide +kernel
theorem dX12_walks_248 : decode cX12_walks 248 = .ok (.iastore, 1) := by decide +kernel
theorem dX12_walks_249 : decode cX12_walks 249 = .ok (.iinc 7 1, 3) := by decide +kernel
theorem dX12_walks_252 : decode cX12_walks 252 = .ok (.goto 17, 3) := by decide +kernel
theorem dX12_walks_255 : decode cX12_walks 255 = .ok (.aload_n 0, 1) := by decide +kernel
theorem dX12_walks_256 : decode cX12_walks 256 = .ok (.getfield 84, 3) := by decide +kernel
theorem dX12_walks_259 : decode cX12_walks 259 = .ok (.aload_n 0, 1) := by decide +kernel
theorem dX12_walks_260 : decode cX12_walks 260 = .ok (.getfield 235, 3) := by decide +kernel
theorem dX12_walks_263 : decode cX12_walks 263 = .ok (.iload 11, 2) := by decide +kernel
theorem dX12_walks_265 : decode cX12_walks 265 = .ok (.iastore, 1) := by decide +kernel
theorem dX12_walks_266 : decode cX12_walks 266 = .ok (.iinc 8 1, 3) := by decide +kernel
theorem dX12_walks_269 : decode cX12_walks 269 = .ok (.aload_n 0, 1) := by decide +kernel
theorem dX12_walks_270 : decode cX12_walks 270 = .ok (.dup, 1) := by decide +kernel
theorem dX12_walks_271 : decode cX12_walks 271 = .ok (.getfield 235, 3) := by decide +kernel
theorem dX12_walks_274 : decode cX12_walks 274 = .ok (.iconst 1, 1) := by decide +kernel
theorem dX12_walks_275 : decode cX12_walks 275 = .ok (.iadd, 1) := by decide +kernel
theorem dX12_walks_276 : decode cX12_walks 276 = .ok (.putfield 235, 3) := by decide +kernel
theorem dX12_walks_279 : decode cX12_walks 279 = .ok (.goto (-232), 3) := by decide +kernel
theorem dX12_walks_282 : decode cX12_walks 282 = .ok (.return_, 1) := by decide +kernel
theorem dX12_way_0 : decode cX12_way 0 = .ok (.aload_n 0, 1) := by decide +kernel
theorem dX12_way_1 : decode cX12_way 1 = .ok (.iload_n 2, 1) := by decide +kernel
theorem dX12_way_2 : decode cX12_way 2 = .ok (.iload_n 1, 1) := by decide +kernel
theorem dX12_way_3 : decode cX12_way 3 = .ok (.invokevirtual 228, 3) := by decide +kernel
theorem dX12_way_6 : decode cX12_way 6 = .ok (.ifCond .eq 18, 3) := by decide +kernel
theorem dX12_way_9 : decode cX12_way 9 = .ok (.aload_n 0, 1) := by decide +kernel
theorem dX12_way_10 : decode cX12_way 10 = .ok (.iload_n 3, 1) := by decide +kernel
theorem dX12_way_11 : decode cX12_way 11 = .ok (.iload_n 1, 1) := by decide +kernel
theorem dX12_way_12 : decode cX12_way 12 = .ok (.invokevirtual 228, 3) := by decide +kernel
theorem dX12_way_15 : decode cX12_way 15 = .ok (.ifCond .eq 9, 3) := by decide +kernel
theorem dX12_way_18 : decode cX12_way 18 = .ok (.iload 4, 2) := by decide +kernel
theorem dX12_way_20 : decode cX12_way 20 = .ok (.iconst (-1), 1) := by decide +kernel
theorem dX12_way_21 : decode cX12_way 21 = .ok (.if_icmp .ge 5, 3) := by decide +kernel
theorem dX12_way_24 : decode cX12_way 24 = .ok (.iconst (-1), 1) := by decide +kernel
theorem dX12_way_25 : decode cX12_way 25 = .ok (.ireturn, 1) := by decide +kernel
theorem dX12_way_26 : decode cX12_way 26 = .ok (.aload_n 0, 1) := by decide +kernel
theorem dX12_way_27 : decode cX12_way 27 = .ok (.iload_n 1, 1) := by decide +kernel
theorem dX12_way_28 : decode cX12_way 28 = .ok (.iload_n 2, 1) := by decide +kernel
theorem dX12_way_29 : decode cX12_way 29 = .ok (.iload_n 3, 1) := by decide +kernel
theorem dX12_way_30 : decode cX12_way 30 = .ok (.invokevirtual 238, 3) := by decide +kernel
theorem dX12_way_33 : decode cX12_way 33 = .ok (.iload 4, 2) := by decide +kernel
theorem dX12_way_35 : decode cX12_way 35 = .ok (.iconst (-1), 1) := by decide +kernel
theorem dX12_way_36 : decode cX12_way 36 = .ok (.if_icmp .ne 10, 3) := by decide +kernel
theorem dX12_way_39 : decode cX12_way 39 = .ok (.aload_n 0, 1) := by decide +kernel
theorem dX12_way_40 : decode cX12_way 40 = .ok (.getfield 235, 3) := by decide +kernel
theorem dX12_way_43 : decode cX12_way 43 = .ok (.goto 23, 3) := by decide +kernel
theorem dX12_way_46 : decode cX12_way 46 = .ok (.iload 4, 2) := by decide +kernel
theorem dX12_way_48 : decode cX12_way 48 = .ok (.aload_n 0, 1) := by decide +kernel
theorem dX12_way_49 : decode cX12_way 49 = .ok (.getfield 235, 3) := by decide +kernel
theorem dX12_way_52 : decode cX12_way 52 = .ok (.if_icmp .ge 13, 3) := by decide +kernel
theorem dX12_way_55 : decode cX12_way 55 = .ok (.aload_n 0, 1) := by decide +kernel
theorem dX12_way_56 : decode cX12_way 56 = .ok (.getfield 84, 3) := by decide +kernel
theorem dX12_way_59 : decode cX12_way 59 = .ok (.iload 4, 2) := by decide +kernel
theorem dX12_way_61 : decode cX12_way 61 = .ok (.iaload, 1) := by decide +kernel
theorem dX12_way_62 : decode cX12_way 62 = .ok (.goto 4, 3) := by decide +kernel
theorem dX12_way_65 : decode cX12_way 65 = .ok (.iconst (-1), 1) := by decide +kernel
theorem dX12_way_66 : decode cX12_way 66 = .ok (.ireturn, 1) := by decide +kernel
theorem dX12_areKin_0 : decode cX12_areKin 0 = .ok (.aload_n 0, 1) := by decide +kernel
theorem dX12_areKin_1 : decode cX12_areKin 1 = .ok (.getfield 17, 3) := by decide +kernel
theorem dX12_areKin_4 : decode cX12_areKin 4 = .ok (.bipush 10, 2) := by decide +kernel
theorem dX12_areKin_6 : decode cX12_areKin 6 = .ok (.iload_n 1, 1) := by decide +kernel
theorem dX12_areKin_7 : decode cX12_areKin 7 = .ok (.imul, 1) := by decide +kernel
theorem dX12_areKin_8 : decode cX12_areKin 8 = .ok (.iload_n 2, 1) := by decide +kernel
theorem dX12_areKin_9 : decode cX12_areKin 9 = .ok (.iadd, 1) := by decide +kernel
theorem dX12_areKin_10 : decode cX12_areKin 10 = .ok (.iaload, 1) := by decide +kernel
theorem dX12_areKin_11 : decode cX12_areKin 11 = .ok (.istore 5, 2) := by decide +kernel
theorem dX12_areKin_13 : decode cX12_areKin 13 = .ok (.aload_n 0, 1) := by decide +kernel
theorem dX12_areKin_14 : decode cX12_areKin 14 = .ok (.getfield 17, 3) := by decide +kernel
theorem dX12_areKin_17 : decode cX12_areKin 17 = .ok (.bipush 10, 2) := by decide +kernel
theorem dX12_areKin_19 : decode cX12_areKin 19 = .ok (.iload_n 3, 1) := by decide +kernel
theorem dX12_areKin_20 : decode cX12_areKin 20 = .ok (.imul, 1) := by decide +kernel
theorem dX12_areKin_21 : decode cX12_areKin 21 = .ok (.iload 4, 2) := by decide +kernel
theorem dX12_areKin_23 : decode cX12_areKin 23 = .ok (.iadd, 1) := by decide +kernel
theorem dX12_areKin_24 : decode cX12_areKin 24 = .ok (.iaload, 1) := by decide +kernel
theorem dX12_areKin_25 : decode cX12_areKin 25 = .ok (.istore 6, 2) := by decide +kernel
theorem dX12_areKin_27 : decode cX12_areKin 27 = .ok (.bipush 10, 2) := by decide +kernel
theorem dX12_areKin_29 : decode cX12_areKin 29 = .ok (.aload_n 0, 1) := by decide +kernel
theorem dX12_areKin_30 : decode cX12_areKin 30 = .ok (.iload_n 1, 1) := by decide +kernel
theorem dX12_areKin_31 : decode cX12_areKin 31 = .ok (.iload_n 2, 1) := by decide +kernel
theorem dX12_areKin_32 : decode cX12_areKin 32 = .ok (.iload_n 3, 1) := by decide +kernel
theorem dX12_areKin_33 : decode cX12_areKin 33 = .ok (.iload 4, 2) := by decide +kernel
theorem dX12_areKin_35 : decode cX12_areKin 35 = .ok (.invokevirtual 231, 3) := by decide +kernel
theorem dX12_areKin_38 : decode cX12_areKin 38 = .ok (.imul, 1) := by decide +kernel
theorem dX12_areKin_39 : decode cX12_areKin 39 = .ok (.aload_n 0, 1) := by decide +kernel
theorem dX12_areKin_40 : decode cX12_areKin 40 = .ok (.getfield 7, 3) := by decide +kernel
theorem dX12_areKin_43 : decode cX12_areKin 43 = .ok (.iload 5, 2) := by decide +kernel
theorem dX12_areKin_45 : decode cX12_areKin 45 = .ok (.iload 6, 2) := by decide +kernel
theorem dX12_areKin_47 : decode cX12_areKin 47 = .ok (.if_icmp .le 8, 3) := by decide +kernel
theorem dX12_areKin_50 : decode cX12_areKin 50 = .ok (.iload 5, 2) := by decide +kernel
theorem dX12_areKin_52 : decode cX12_areKin 52 = .ok (.goto 5, 3) := by decide +kernel
theorem dX12_areKin_55 : decode cX12_areKin 55 = .ok (.iload 6, 2) := by decide +kernel
theorem dX12_areKin_57 : decode cX12_areKin 57 = .ok (.imul, 1) := by decide +kernel
theorem dX12_areKin_58 : decode cX12_areKin 58 = .ok (.if_icmp .gt 7, 3) := by decide +kernel
theorem dX12_areKin_61 : decode cX12_areKin 61 = .ok (.iconst 1, 1) := by decide +kernel
theorem dX12_areKin_62 : decode cX12_areKin 62 = .ok (.goto 4, 3) := by decide +kernel
theorem dX12_areKin_65 : decode cX12_areKin 65 = .ok (.iconst 0, 1) := by decide +kernel
theorem dX12_areKin_66 : decode cX12_areKin 66 = .ok (.ireturn, 1) := by decide +kernel
theorem dX12_kin_0 : decode cX12_kin 0 = .ok (.aload_n 0, 1) := by decide +kernel
theorem dX12_kin_1 : decode cX12_kin 1 = .ok (.iload_n 2, 1) := by decide +kernel
theorem dX12_kin_2 : decode cX12_kin 2 = .ok (.iload_n 1, 1) := by decide +kernel
theorem dX12_kin_3 : decode cX12_kin 3 = .ok (.invokevirtual 228, 3) := by decide +kernel
theorem dX12_kin_6 : decode cX12_kin 6 = .ok (.ifCond .eq 12, 3) := by decide +kernel
theorem dX12_kin_9 : decode cX12_kin 9 = .ok (.aload_n 0, 1) := by decide +kernel
theorem dX12_kin_10 : decode cX12_kin 10 = .ok (.iload_n 3, 1) := by decide +kernel
theorem dX12_kin_11 : decode cX12_kin 11 = .ok (.iload_n 1, 1) := by decide +kernel
theorem dX12_kin_12 : decode cX12_kin 12 = .ok (.invokevirtual 228, 3) := by decide +kernel
theorem dX12_kin_15 : decode cX12_kin 15 = .ok (.ifCond .ne 5, 3) := by decide +kernel
theorem dX12_kin_18 : decode cX12_kin 18 = .ok (.iconst (-1), 1) := by decide +kernel
theorem dX12_kin_19 : decode cX12_kin 19 = .ok (.ireturn, 1) := by decide +kernel
theorem dX12_kin_20 : decode cX12_kin 20 = .ok (.iload_n 2, 1) := by decide +kernel
theorem dX12_kin_21 : decode cX12_kin 21 = .ok (.iload_n 3, 1) := by decide +kernel
theorem dX12_kin_22 : decode cX12_kin 22 = .ok (.if_icmp .ne 8, 3) := by decide +kernel
theorem dX12_kin_25 : decode cX12_kin 25 = .ok (.bipush (-2), 2) := by decide +kernel
theorem dX12_kin_27 : decode cX12_kin 27 = .ok (.goto 19, 3) := by decide +kernel
theorem dX12_kin_30 : decode cX12_kin 30 = .ok (.aload_n 0, 1) := by decide +kernel
theorem dX12_kin_31 : decode cX12_kin 31 = .ok (.iload_n 2, 1) := by decide +kernel
theorem dX12_kin_32 : decode cX12_kin 32 = .ok (.iload_n 1, 1) := by decide +kernel
theorem dX12_kin_33 : decode cX12_kin 33 = .ok (.iload_n 3, 1) := by decide +kernel
theorem dX12_kin_34 : decode cX12_kin 34 = .ok (.iload_n 1, 1) := by decide +kernel
theorem dX12_kin_35 : decode cX12_kin 35 = .ok (.invokevirtual 242, 3) := by decide +kernel
theorem dX12_kin_38 : decode cX12_kin 38 = .ok (.ifCond .eq 7, 3) := by decide +kernel
theorem dX12_kin_41 : decode cX12_kin 41 = .ok (.iconst 1, 1) := by decide +kernel
theorem dX12_kin_42 : decode cX12_kin 42 = .ok (.goto 4, 3) := by decide +kernel
theorem dX12_kin_45 : decode cX12_kin 45 = .ok (.iconst 0, 1) := by decide +kernel
theorem dX12_kin_46 : decode cX12_kin 46 = .ok (.ireturn, 1) := by decide +kernel
theorem dX12_setOf_0 : decode cX12_setOf 0 = .ok (.iconst 1, 1) := by decide +kernel
theorem dX12_setOf_1 : decode cX12_setOf 1 = .ok (.iload_n 2, 1) := by decide +kernel
theorem dX12_setOf_2 : decode cX12_setOf 2 = .ok (.ishl, 1) := by decide +kernel
theorem dX12_setOf_3 : decode cX12_setOf 3 = .ok (.istore_n 3, 1) := by decide +kernel
theorem dX12_setOf_4 : decode cX12_setOf 4 = .ok (.iconst 1, 1) := by decide +kernel
theorem dX12_setOf_5 : decode cX12_setOf 5 = .ok (.istore 4, 2) := by decide +kernel
theorem dX12_setOf_7 : decode cX12_setOf 7 = .ok (.iload 4, 2) := by decide +kernel
theorem dX12_setOf_9 : decode cX12_setOf 9 = .ok (.ifCond .eq 122, 3) := by decide +kernel
theorem dX12_setOf_12 : decode cX12_setOf 12 = .ok (.iconst 0, 1) := by decide +kernel
theorem dX12_setOf_13 : decode cX12_setOf 13 = .ok (.istore 4, 2) := by decide +kernel
theorem dX12_setOf_15 : decode cX12_setOf 15 = .ok (.iconst 0, 1) := by decide +kernel
theorem dX12_setOf_16 : decode cX12_setOf 16 = .ok (.istore 5, 2) := by decide +kernel
theorem dX12_setOf_18 : decode cX12_setOf 18 = .ok (.iload 5, 2) := by decide +kernel
theorem dX12_setOf_20 : decode cX12_setOf 20 = .ok (.aload_n 0, 1) := by decide +kernel
theorem dX12_setOf_21 : decode cX12_setOf 21 = .ok (.getfield 120, 3) := by decide +kernel
theorem dX12_setOf_24 : decode cX12_setOf 24 = .ok (.if_icmp .ge 104, 3) := by decide +kernel
theorem dX12_setOf_27 : decode cX12_setOf 27 = .ok (.iconst 0, 1) := by decide +kernel
theorem dX12_setOf_28 : decode cX12_setOf 28 = .ok (.istore 6, 2) := by decide +kernel
theorem dX12_setOf_30 : decode cX12_setOf 30 = .ok (.iload 6, 2) := by decide +kernel
theorem dX12_setOf_32 : decode cX12_setOf 32 = .ok (.aload_n 0, 1) := by decide +kernel
theorem dX12_setOf_33 : decode cX12_setOf 33 = .ok (.getfield 120, 3) := by decide +kernel
theorem dX12_setOf_36 : decode cX12_setOf 36 = .ok (.if_icmp .ge 86, 3) := by decide +kernel
theorem dX12_setOf_39 : decode cX12_setOf 39 = .ok (.iload_n 3, 1) := by decide +kernel
theorem dX12_setOf_40 : decode cX12_setOf 40 = .ok (.iload 5, 2) := by decide +kernel
theorem dX12_setOf_42 : decode cX12_setOf 42 = .ok (.ishr, 1) := by decide +kernel
theorem dX12_setOf_43 : decode cX12_setOf 43 = .ok (.iconst 1, 1) := by decide +kernel
theorem dX12_setOf_44 : decode cX12_setOf 44 = .ok (.iand, 1) := by decide +kernel
theorem dX12_setOf_45 : decode cX12_setOf 45 = .ok (.iconst 1, 1) := by decide +kernel
theorem dX12_setOf_46 : decode cX12_setOf 46 = .ok (.if_icmp .ne 26, 3) := by decide +kernel
theorem dX12_setOf_49 : decode cX12_setOf 49 = .ok (.iload_n 3, 1) := by decide +kernel
theorem dX12_setOf_50 : decode cX12_setOf 50 = .ok (.iload 6, 2) := by decide +kernel
theorem dX12_setOf_52 : decode cX12_setOf 52 = .ok (.ishr, 1) := by decide +kernel
theorem dX12_setOf_53 : decode cX12_setOf 53 = .ok (.iconst 1, 1) := by decide +kernel
theorem dX12_setOf_54 : decode cX12_setOf 54 = .ok (.iand, 1) := by decide +kernel
theorem dX12_setOf_55 : decode cX12_setOf 55 = .ok (.ifCond .ne 17, 3) := by decide +kernel
theorem dX12_setOf_58 : decode cX12_setOf 58 = .ok (.aload_n 0, 1) := by decide +kernel
theorem dX12_setOf_59 : decode cX12_setOf 59 = .ok (.iload 6, 2) := by decide +kernel
theorem dX12_setOf_61 : decode cX12_setOf 61 = .ok (.iload_n 1, 1) := by decide +kernel
theorem dX12_setOf_62 : decode cX12_setOf 62 = .ok (.invokevirtual 228, 3) := by decide +kernel
theorem dX12_setOf_65 : decode cX12_setOf 65 = .ok (.ifCond .eq 7, 3) := by decide +kernel
theorem dX12_setOf_68 : decode cX12_setOf 68 = .ok (.iconst 1, 1) := by decide +kernel
theorem dX12_setOf_69 : decode cX12_setOf 69 = .ok (.goto 4, 3) := by decide +kernel
theorem dX12_setOf_72 : decode cX12_setOf 72 = .ok (.iconst 0, 1) := by decide +kernel
theorem dX12_setOf_73 : decode cX12_setOf 73 = .ok (.istore 7, 2) := by decide +kernel
theorem dX12_setOf_75 : decode cX12_setOf 75 = .ok (.iload 7, 2) := by decide +kernel
theorem dX12_setOf_77 : decode cX12_setOf 77 = .ok (.ifCond .eq 39, 3) := by decide +kernel
theorem dX12_setOf_80 : decode cX12_setOf 80 = .ok (.aload_n 0, 1) := by decide +kernel
theorem dX12_setOf_81 : decode cX12_setOf 81 = .ok (.iload 5, 2) := by decide +kernel
theorem dX12_setOf_83 : decode cX12_setOf 83 = .ok (.iload_n 1, 1) := by decide +kernel
theorem dX12_setOf_84 : decode cX12_setOf 84 = .ok (.iload 6, 2) := by decide +kernel
theorem dX12_setOf_86 : decode cX12_setOf 86 = .ok (.iload_n 1, 1) := by decide +kernel
theorem dX12_setOf_87 : decode cX12_setOf 87 = .ok (.invokevirtual 242, 3) := by decide +kernel
theorem dX12_setOf_90 : decode cX12_setOf 90 = .ok (.ifCond .ne 16, 3) := by decide +kernel
theorem dX12_setOf_93 : decode cX12_setOf 93 = .ok (.aload_n 0, 1) := by decide +kernel
theorem dX12_setOf_94 : decode cX12_setOf 94 = .ok (.iload 6, 2) := by decide +kernel
theorem dX12_setOf_96 : decode cX12_setOf 96 = .ok (.iload_n 1, 1) := by decide +kernel
theorem dX12_setOf_97 : decode cX12_setOf 97 = .ok (.iload 5, 2) := by decide +kernel
theorem dX12_setOf_99 : decode cX12_setOf 99 = .ok (.iload_n 1, 1) := by decide +kernel
theorem dX12_setOf_100 : decode cX12_setOf 100 = .ok (.invokevirtual 242, 3) := by decide +kernel
theorem dX12_setOf_103 : decode cX12_setOf 103 = .ok (.ifCond .eq 13, 3) := by decide +kernel
theorem dX12_setOf_106 : decode cX12_setOf 106 = .ok (.iload_n 3, 1) := by decide +kernel
theorem dX12_setOf_107 : decode cX12_setOf 107 = .ok (.iconst 1, 1) := by decide +kernel
theorem dX12_setOf_108 : decode cX12_setOf 108 = .ok (.iload 6, 2) := by decide +kernel
theorem dX12_setOf_110 : decode cX12_setOf 110 = .ok (.ishl, 1) := by decide +kernel
theorem dX12_setOf_111 : decode cX12_setOf 111 = .ok (.ior, 1) := by decide +kernel
theorem dX12_setOf_112 : decode cX12_setOf 112 = .ok (.istore_n 3, 1) := by decide +kernel
theorem dX12_setOf_113 : decode cX12_setOf 113 = .ok (.iconst 1, 1) := by decide +kernel
theorem dX12_setOf_114 : decode cX12_setOf 114 = .ok (.istore 4, 2) := by decide +kernel
theorem dX12_setOf_116 : decode cX12_setOf 116 = .ok (.iinc 6 1, 3) := by decide +kernel
theorem dX12_setOf_119 : decode cX12_setOf 119 = .ok (.goto (-89), 3) := by decide +kernel
theorem dX12_setOf_122 : decode cX12_setOf 122 = .ok (.iinc 5 1, 3) := by decide +kernel
theorem dX12_setOf_125 : decode cX12_setOf 125 = .ok (.goto (-107), 3) := by decide +kernel
theorem dX12_setOf_128 : decode cX12_setOf 128 = .ok (.goto (-121), 3) := by decide +kernel
theorem dX12_setOf_131 : decode cX12_setOf 131 = .ok (.iload_n 3, 1) := by decide +kernel
theorem dX12_setOf_132 : decode cX12_setOf 132 = .ok (.ireturn, 1) := by decide +kernel
theorem dX12_set_0 : decode cX12_set 0 = .ok (.aload_n 0, 1) := by decide +kernel
theorem dX12_set_1 : decode cX12_set 1 = .ok (.iload_n 2, 1) := by decide +kernel
theorem dX12_set_2 : decode cX12_set 2 = .ok (.iload_n 1, 1) := by decide +kernel
theorem dX12_set_3 : decode cX12_set 3 = .ok (.invokevirtual 228, 3) := by decide +kernel
theorem dX12_set_6 : decode cX12_set 6 = .ok (.ifCond .eq 12, 3) := by decide +kernel
theorem dX12_set_9 : decode cX12_set 9 = .ok (.aload_n 0, 1) := by decide +kernel
theorem dX12_set_10 : decode cX12_set 10 = .ok (.iload_n 1, 1) := by decide +kernel
theorem dX12_set_11 : decode cX12_set 11 = .ok (.iload_n 2, 1) := by decide +kernel
theorem dX12_set_12 : decode cX12_set 12 = .ok (.invokevirtual 246, 3) := by decide +kernel
theorem dX12_set_15 : decode cX12_set 15 = .ok (.goto 4, 3) := by decide +kernel
theorem dX12_set_18 : decode cX12_set 18 = .ok (.iconst (-1), 1) := by decide +kernel
theorem dX12_set_19 : decode cX12_set 19 = .ok (.ireturn, 1) := by decide +kernel
theorem dX12_odds_0 : decode cX12_odds 0 = .ok (.aload_n 0, 1) := by decide +kernel
theorem dX12_odds_1 : decode cX12_odds 1 = .ok (.iload_n 2, 1) := by decide +kernel
theorem dX12_odds_2 : decode cX12_odds 2 = .ok (.iload_n 1, 1) := by decide +kernel
theorem dX12_odds_3 : decode cX12_odds 3 = .ok (.invokevirtual 228, 3) := by decide +kernel
theorem dX12_odds_6 : decode cX12_odds 6 = .ok (.ifCond .eq 21, 3) := by decide +kernel
theorem dX12_odds_9 : decode cX12_odds 9 = .ok (.aload_n 0, 1) := by decide +kernel
theorem dX12_odds_10 : decode cX12_odds 10 = .ok (.iload_n 3, 1) := by decide +kernel
theorem dX12_odds_11 : decode cX12_odds 11 = .ok (.invokevirtual 130, 3) := by decide +kernel
theorem dX12_odds_14 : decode cX12_odds 14 = .ok (.ifCond .eq 13, 3) := by decide +kernel
theorem dX12_odds_17 : decode cX12_odds 17 = .ok (.iload 4, 2) := by decide +kernel
theorem dX12_odds_19 : decode cX12_odds 19 = .ok (.iconst 0, 1) := by decide +kernel
theorem dX12_odds_20 : decode cX12_odds 20 = .ok (.iconst 1, 1) := by decide +kernel
theorem dX12_odds_21 : decode cX12_odds 21 = .ok (.invokestatic 123, 3) := by decide +kernel
theorem dX12_odds_24 : decode cX12_odds 24 = .ok (.ifCond .ne 5, 3) := by decide +kernel
theorem dX12_odds_27 : decode cX12_odds 27 = .ok (.iconst (-1), 1) := by decide +kernel
theorem dX12_odds_28 : decode cX12_odds 28 = .ok (.ireturn, 1) := by decide +kernel
theorem dX12_odds_29 : decode cX12_odds 29 = .ok (.iconst 0, 1) := by decide +kernel
theorem dX12_odds_30 : decode cX12_odds 30 = .ok (.istore 5, 2) := by decide +kernel
theorem dX12_odds_32 : decode cX12_odds 32 = .ok (.iconst 0, 1) := by decide +kernel
theorem dX12_odds_33 : decode cX12_odds 33 = .ok (.istore 6, 2) := by decide +kernel
theorem dX12_odds_35 : decode cX12_odds 35 = .ok (.iconst 0, 1) := by decide +kernel
theorem dX12_odds_36 : decode cX12_odds 36 = .ok (.istore 7, 2) := by decide +kernel
theorem dX12_odds_38 : decode cX12_odds 38 = .ok (.iload 7, 2) := by decide +kernel
theorem dX12_odds_40 : decode cX12_odds 40 = .ok (.bipush 10, 2) := by decide +kernel
theorem dX12_odds_42 : decode cX12_odds 42 = .ok (.if_icmp .ge 50, 3) := by decide +kernel
theorem dX12_odds_45 : decode cX12_odds 45 = .ok (.iload 7, 2) := by decide +kernel
theorem dX12_odds_47 : decode cX12_odds 47 = .ok (.iload_n 1, 1) := by decide +kernel
theorem dX12_odds_48 : decode cX12_odds 48 = .ok (.if_icmp .eq 38, 3) := by decide +kernel
theorem dX12_odds_51 : decode cX12_odds 51 = .ok (.aload_n 0, 1) := by decide +kernel
theorem dX12_odds_52 : decode cX12_odds 52 = .ok (.iload_n 3, 1) := by decide +kernel
theorem dX12_odds_53 : decode cX12_odds 53 = .ok (.iload 7, 2) := by decide +kernel
theorem dX12_odds_55 : decode cX12_odds 55 = .ok (.invokevirtual 228, 3) := by decide +kernel
theorem dX12_odds_58 : decode cX12_odds 58 = .ok (.ifCond .eq 28, 3) := by decide +kernel
theorem dX12_odds_61 : decode cX12_odds 61 = .ok (.iinc 6 1, 3) := by decide +kernel
theorem dX12_odds_64 : decode cX12_odds 64 = .ok (.iload 5, 2) := by decide +kernel
theorem dX12_odds_66 : decode cX12_odds 66 = .ok (.aload_n 0, 1) := by decide +kernel
theorem dX12_odds_67 : decode cX12_odds 67 = .ok (.iload_n 2, 1) := by decide +kernel
theorem dX12_odds_68 : decode cX12_odds 68 = .ok (.iload_n 1, 1) := by decide +kernel
theorem dX12_odds_69 : decode cX12_odds 69 = .ok (.iload_n 3, 1) := by decide +kernel
theorem dX12_odds_70 : decode cX12_odds 70 = .ok (.iload 7, 2) := by decide +kernel
theorem dX12_odds_72 : decode cX12_odds 72 = .ok (.invokevirtual 242, 3) := by decide +kernel
theorem dX12_odds_75 : decode cX12_odds 75 = .ok (.ifCond .eq 7, 3) := by decide +kernel
theorem dX12_odds_78 : decode cX12_odds 78 = .ok (.iconst 1, 1) := by decide +kernel
theorem dX12_odds_79 : decode cX12_odds 79 = .ok (.goto 4, 3) := by decide +kernel
theorem dX12_odds_82 : decode cX12_odds 82 = .ok (.iconst 0, 1) := by decide +kernel
theorem dX12_odds_83 : decode cX12_odds 83 = .ok (.iadd, 1) := by decide +kernel
theorem dX12_odds_84 : decode cX12_odds 84 = .ok (.istore 5, 2) := by decide +kernel
theorem dX12_odds_86 : decode cX12_odds 86 = .ok (.iinc 7 1, 3) := by decide +kernel
theorem dX12_odds_89 : decode cX12_odds 89 = .ok (.goto (-51), 3) := by decide +kernel
theorem dX12_odds_92 : decode cX12_odds 92 = .ok (.iload 4, 2) := by decide +kernel
theorem dX12_odds_94 : decode cX12_odds 94 = .ok (.ifCond .ne 8, 3) := by decide +kernel
theorem dX12_odds_97 : decode cX12_odds 97 = .ok (.iload 5, 2) := by decide +kernel
theorem dX12_odds_99 : decode cX12_odds 99 = .ok (.goto 5, 3) := by decide +kernel
theorem dX12_odds_102 : decode cX12_odds 102 = .ok (.iload 6, 2) := by decide +kernel
theorem dX12_odds_104 : decode cX12_odds 104 = .ok (.ireturn, 1) := by decide +kernel
theorem dX12_matches_0 : decode cX12_matches 0 = .ok (.aload_n 0, 1) := by decide +kernel
theorem dX12_matches_1 : decode cX12_matches 1 = .ok (.iload_n 1, 1) := by decide +kernel
theorem dX12_matches_2 : decode cX12_matches 2 = .ok (.invokevirtual 130, 3) := by decide +kernel
theorem dX12_matches_5 : decode cX12_matches 5 = .ok (.ifCond .eq 11, 3) := by decide +kernel
theorem dX12_matches_8 : decode cX12_matches 8 = .ok (.aload_n 0, 1) := by decide +kernel
theorem dX12_matches_9 : decode cX12_matches 9 = .ok (.iload_n 2, 1) := by decide +kernel
theorem dX12_matches_10 : decode cX12_matches 10 = .ok (.invokevirtual 130, 3) := by decide +kernel
theorem dX12_matches_13 : decode cX12_matches 13 = .ok (.ifCond .ne 5, 3) := by decide +kernel
theorem dX12_matches_16 : decode cX12_matches 16 = .ok (.iconst (-1), 1) := by decide +kernel
theorem dX12_matches_17 : decode cX12_matches 17 = .ok (.ireturn, 1) := by decide +kernel
theorem dX12_matches_18 : decode cX12_matches 18 = .ok (.iload_n 1, 1) := by decide +kernel
theorem dX12_matches_19 : decode cX12_matches 19 = .ok (.iload_n 2, 1) := by decide +kernel
theorem dX12_matches_20 : decode cX12_matches 20 = .ok (.if_icmp .eq 33, 3) := by decide +kernel
theorem dX12_matches_23 : decode cX12_matches 23 = .ok (.iload_n 3, 1) := by decide +kernel
theorem dX12_matches_24 : decode cX12_matches 24 = .ok (.iconst 0, 1) := by decide +kernel
theorem dX12_matches_25 : decode cX12_matches 25 = .ok (.bipush 26, 2) := by decide +kernel
theorem dX12_matches_27 : decode cX12_matches 27 = .ok (.invokestatic 123, 3) := by decide +kernel
theorem dX12_matches_30 : decode cX12_matches 30 = .ok (.ifCond .eq 23, 3) := by decide +kernel
theorem dX12_matches_33 : decode cX12_matches 33 = .ok (.iload 4, 2) := by decide +kernel
theorem dX12_matches_35 : decode cX12_matches 35 = .ok (.iconst 0, 1) := by decide +kernel
theorem dX12_matches_36 : decode cX12_matches 36 = .ok (.bipush 26, 2) := by decide +kernel
theorem dX12_matches_38 : decode cX12_matches 38 = .ok (.invokestatic 123, 3) := by decide +kernel
theorem dX12_matches_41 : decode cX12_matches 41 = .ok (.ifCond .eq 12, 3) := by decide +kernel
theorem dX12_matches_44 : decode cX12_matches 44 = .ok (.iload_n 3, 1) := by decide +kernel
theorem dX12_matches_45 : decode cX12_matches 45 = .ok (.ifCond .ne 11, 3) := by decide +kernel
theorem dX12_matches_48 : decode cX12_matches 48 = .ok (.iload 4, 2) := by decide +kernel
theorem dX12_matches_50 : decode cX12_matches 50 = .ok (.ifCond .ne 6, 3) := by decide +kernel
theorem dX12_matches_53 : decode cX12_matches 53 = .ok (.bipush (-2), 2) := by decide +kernel
theorem dX12_matches_55 : decode cX12_matches 55 = .ok (.ireturn, 1) := by decide +kernel
theorem dX12_matches_56 : decode cX12_matches 56 = .ok (.iconst 0, 1) := by decide +kernel
theorem dX12_matches_57 : decode cX12_matches 57 = .ok (.istore 5, 2) := by decide +kernel
theorem dX12_matches_59 : decode cX12_matches 59 = .ok (.iconst 0, 1) := by decide +kernel
theorem dX12_matches_60 : decode cX12_matches 60 = .ok (.istore 6, 2) := by decide +kernel
theorem dX12_matches_62 : decode cX12_matches 62 = .ok (.iload 6, 2) := by decide +kernel
theorem dX12_matches_64 : decode cX12_matches 64 = .ok (.bipush 10, 2) := by decide +kernel
theorem dX12_matches_66 : decode cX12_matches 66 = .ok (.if_icmp .ge 115, 3) := by decide +kernel
theorem dX12_matches_69 : decode cX12_matches 69 = .ok (.aload_n 0, 1) := by decide +kernel
theorem dX12_matches_70 : decode cX12_matches 70 = .ok (.iload_n 1, 1) := by decide +kernel
theorem dX12_matches_71 : decode cX12_matches 71 = .ok (.iload 6, 2) := by decide +kernel
theorem dX12_matches_73 : decode cX12_matches 73 = .ok (.invokevirtual 228, 3) := by decide +kernel
theorem dX12_matches_76 : decode cX12_matches 76 = .ok (.ifCond .eq 99, 3) := by decide +kernel
theorem dX12_matches_79 : decode cX12_matches 79 = .ok (.aload_n 0, 1) := by decide +kernel
theorem dX12_matches_80 : decode cX12_matches 80 = .ok (.iload_n 2, 1) := by decide +kernel
theorem dX12_matches_81 : decode cX12_matches 81 = .ok (.iload 6, 2) := by decide +kernel
theorem dX12_matches_83 : decode cX12_matches 83 = .ok (.invokevirtual 228, 3) := by decide +kernel
theorem dX12_matches_86 : decode cX12_matches 86 = .ok (.ifCond .eq 89, 3) := by decide +kernel
theorem dX12_matches_89 : decode cX12_matches 89 = .ok (.aload_n 0, 1) := by decide +kernel
theorem dX12_matches_90 : decode cX12_matches 90 = .ok (.iload_n 1, 1) := by decide +kernel
theorem dX12_matches_91 : decode cX12_matches 91 = .ok (.iload 6, 2) := by decide +kernel
theorem dX12_matches_93 : decode cX12_matches 93 = .ok (.iload_n 2, 1) := by decide +kernel
theorem dX12_matches_94 : decode cX12_matches 94 = .ok (.iload 6, 2) := by decide +kernel
theorem dX12_matches_96 : decode cX12_matches 96 = .ok (.invokevirtual 242, 3) := by decide +kernel
theorem dX12_matches_99 : decode cX12_matches 99 = .ok (.ifCond .eq 76, 3) := by decide +kernel
theorem dX12_matches_102 : decode cX12_matches 102 = .ok (.aload_n 0, 1) := by decide +kernel
theorem dX12_matches_103 : decode cX12_matches 103 = .ok (.iload 6, 2) := by decide +kernel
theorem dX12_matches_105 : decode cX12_matches 105 = .ok (.iload_n 1, 1) := by decide +kernel
theorem dX12_matches_106 : decode cX12_matches 106 = .ok (.iload_n 2, 1) := by decide +kernel
theorem dX12_matches_107 : decode cX12_matches 107 = .ok (.invokevirtual 238, 3) := by decide +kernel
theorem dX12_matches_110 : decode cX12_matches 110 = .ok (.iconst 0, 1) := by decide +kernel
theorem dX12_matches_111 : decode cX12_matches 111 = .ok (.istore 7, 2) := by decide +kernel
theorem dX12_matches_113 : decode cX12_matches 113 = .ok (.iconst 0, 1) := by decide +kernel
theorem dX12_matches_114 : decode cX12_matches 114 = .ok (.istore 8, 2) := by decide +kernel
theorem dX12_matches_116 : decode cX12_matches 116 = .ok (.iload 8, 2) := by decide +kernel
theorem dX12_matches_118 : decode cX12_matches 118 = .ok (.aload_n 0, 1) := by decide +kernel
theorem dX12_matches_119 : decode cX12_matches 119 = .ok (.getfield 235, 3) := by decide +kernel
theorem dX12_matches_122 : decode cX12_matches 122 = .ok (.if_icmp .ge 38, 3) := by decide +kernel
theorem dX12_matches_125 : decode cX12_matches 125 = .ok (.iload 7, 2) := by decide +kernel
theorem dX12_matches_127 : decode cX12_matches 127 = .ok (.ifCond .ne 20, 3) := by decide +kernel
theorem dX12_matches_130 : decode cX12_matches 130 = .ok (.aload_n 0, 1) := by decide +kernel
theorem dX12_matches_131 : decode cX12_matches 131 = .ok (.getfield 84, 3) := by decide +kernel
theorem dX12_matches_134 : decode cX12_matches 134 = .ok (.iload 8, 2) := by decide +kernel
theorem dX12_matches_136 : decode cX12_matches 136 = .ok (.iaload, 1) := by decide +kernel
theorem dX12_matches_137 : decode cX12_matches 137 = .ok (.bipush 100, 2) := by decide +kernel
theorem dX12_matches_139 : decode cX12_matches 139 = .ok (.iload_n 3, 1) := by decide +kernel
theorem dX12_matches_140 : decode cX12_matches 140 = .ok (.imul, 1) := by decide +kernel
theorem dX12_matches_141 : decode cX12_matches 141 = .ok (.iload 4, 2) := by decide +kernel
theorem dX12_matches_143 : decode cX12_matches 143 = .ok (.iadd, 1) := by decide +kernel
theorem dX12_matches_144 : decode cX12_matches 144 = .ok (.if_icmp .ne 7, 3) := by decide +kernel
theorem dX12_matches_147 : decode cX12_matches 147 = .ok (.iconst 1, 1) := by decide +kernel
theorem dX12_matches_148 : decode cX12_matches 148 = .ok (.goto 4, 3) := by decide +kernel
theorem dX12_matches_151 : decode cX12_matches 151 = .ok (.iconst 0, 1) := by decide +kernel
theorem dX12_matches_152 : decode cX12_matches 152 = .ok (.istore 7, 2) := by decide +kernel
theorem dX12_matches_154 : decode cX12_matches 154 = .ok (.iinc 8 1, 3) := by decide +kernel
theorem dX12_matches_157 : decode cX12_matches 157 = .ok (.goto (-41), 3) := by decide +kernel
theorem dX12_matches_160 : decode cX12_matches 160 = .ok (.iload 5, 2) := by decide +kernel
theorem dX12_matches_162 : decode cX12_matches 162 = .ok (.iload 7, 2) := by decide +kernel
theorem dX12_matches_164 : decode cX12_matches 164 = .ok (.ifCond .eq 7, 3) := by decide +kernel
theorem dX12_matches_167 : decode cX12_matches 167 = .ok (.iconst 1, 1) := by decide +kernel
theorem dX12_matches_168 : decode cX12_matches 168 = .ok (.goto 4, 3) := by decide +kernel
theorem dX12_matches_171 : decode cX12_matches 171 = .ok (.iconst 0, 1) := by decide +kernel
theorem dX12_matches_172 : decode cX12_matches 172 = .ok (.iadd, 1) := by decide +kernel
theorem dX12_matches_173 : decode cX12_matches 173 = .ok (.istore 5, 2) := by decide +kernel
theorem dX12_matches_175 : decode cX12_matches 175 = .ok (.iinc 6 1, 3) := by decide +kernel
theorem dX12_matches_178 : decode cX12_matches 178 = .ok (.goto (-116), 3) := by decide +kernel
theorem dX12_matches_181 : decode cX12_matches 181 = .ok (.iload 5, 2) := by decide +kernel
theorem dX12_matches_183 : decode cX12_matches 183 = .ok (.ireturn, 1) := by decide +kernel
theorem dX12_sums_0 : decode cX12_sums 0 = .ok (.aload_n 0, 1) := by decide +kernel
theorem dX12_sums_1 : decode cX12_sums 1 = .ok (.iconst 0, 1) := by decide +kernel
theorem dX12_sums_2 : decode cX12_sums 2 = .ok (.putfield 249, 3) := by decide +kernel
theorem dX12_sums_5 : decode cX12_sums 5 = .ok (.aload_n 0, 1) := by decide +kernel
theorem dX12_sums_6 : decode cX12_sums 6 = .ok (.iconst 0, 1) := by decide +kernel
theorem dX12_sums_7 : decode cX12_sums 7 = .ok (.putfield 252, 3) := by decide +kernel
theorem dX12_sums_10 : decode cX12_sums 10 = .ok (.iconst 0, 1) := by decide +kernel
theorem dX12_sums_11 : decode cX12_sums 11 = .ok (.istore 4, 2) := by decide +kernel
theorem dX12_sums_13 : decode cX12_sums 13 = .ok (.iload 4, 2) := by decide +kernel
theorem dX12_sums_15 : decode cX12_sums 15 = .ok (.bipush 10, 2) := by decide +kernel
theorem dX12_sums_17 : decode cX12_sums 17 = .ok (.if_icmp .ge 64, 3) := by decide +kernel
theorem dX12_sums_20 : decode cX12_sums 20 = .ok (.iload 4, 2) := by decide +kernel
theorem dX12_sums_22 : decode cX12_sums 22 = .ok (.iload_n 3, 1) := by decide +kernel
theorem dX12_sums_23 : decode cX12_sums 23 = .ok (.if_icmp .eq 52, 3) := by decide +kernel
theorem dX12_sums_26 : decode cX12_sums 26 = .ok (.aload_n 0, 1) := by decide +kernel
theorem dX12_sums_27 : decode cX12_sums 27 = .ok (.iload_n 1, 1) := by decide +kernel
theorem dX12_sums_28 : decode cX12_sums 28 = .ok (.iload 4, 2) := by decide +kernel
theorem dX12_sums_30 : decode cX12_sums 30 = .ok (.invokevirtual 228, 3) := by decide +kernel
theorem dX12_sums_33 : decode cX12_sums 33 = .ok (.ifCond .eq 42, 3) := by decide +kernel
theorem dX12_sums_36 : decode cX12_sums 36 = .ok (.aload_n 0, 1) := by decide +kernel
theorem dX12_sums_37 : decode cX12_sums 37 = .ok (.iload_n 2, 1) := by decide +kernel
theorem dX12_sums_38 : decode cX12_sums 38 = .ok (.iload 4, 2) := by decide +kernel
theorem dX12_sums_40 : decode cX12_sums 40 = .ok (.invokevirtual 228, 3) := by decide +kernel
theorem dX12_sums_43 : decode cX12_sums 43 = .ok (.ifCond .eq 32, 3) := by decide +kernel
theorem dX12_sums_46 : decode cX12_sums 46 = .ok (.aload_n 0, 1) := by decide +kernel
theorem dX12_sums_47 : decode cX12_sums 47 = .ok (.dup, 1) := by decide +kernel
theorem dX12_sums_48 : decode cX12_sums 48 = .ok (.getfield 249, 3) := by decide +kernel
theorem dX12_sums_51 : decode cX12_sums 51 = .ok (.aload_n 0, 1) := by decide +kernel
theorem dX12_sums_52 : decode cX12_sums 52 = .ok (.iload_n 1, 1) := by decide +kernel
theorem dX12_sums_53 : decode cX12_sums 53 = .ok (.iload 4, 2) := by decide +kernel
theorem dX12_sums_55 : decode cX12_sums 55 = .ok (.iload_n 2, 1) := by decide +kernel
theorem dX12_sums_56 : decode cX12_sums 56 = .ok (.iload 4, 2) := by decide +kernel
theorem dX12_sums_58 : decode cX12_sums 58 = .ok (.invokevirtual 231, 3) := by decide +kernel
theorem dX12_sums_61 : decode cX12_sums 61 = .ok (.iadd, 1) := by decide +kernel
theorem dX12_sums_62 : decode cX12_sums 62 = .ok (.putfield 249, 3) := by decide +kernel
theorem dX12_sums_65 : decode cX12_sums 65 = .ok (.aload_n 0, 1) := by decide +kernel
theorem dX12_sums_66 : decode cX12_sums 66 = .ok (.dup, 1) := by decide +kernel
theorem dX12_sums_67 : decode cX12_sums 67 = .ok (.getfield 252, 3) := by decide +kernel
theorem dX12_sums_70 : decode cX12_sums 70 = .ok (.iconst 1, 1) := by decide +kernel
theorem dX12_sums_71 : decode cX12_sums 71 = .ok (.iadd, 1) := by decide +kernel
theorem dX12_sums_72 : decode cX12_sums 72 = .ok (.putfield 252, 3) := by decide +kernel
theorem dX12_sums_75 : decode cX12_sums 75 = .ok (.iinc 4 1, 3) := by decide +kernel
theorem dX12_sums_78 : decode cX12_sums 78 = .ok (.goto (-65), 3) := by decide +kernel
theorem dX12_sums_81 : decode cX12_sums 81 = .ok (.return_, 1) := by decide +kernel
theorem dX12_far_0 : decode cX12_far 0 = .ok (.aload_n 0, 1) := by decide +kernel
theorem dX12_far_1 : decode cX12_far 1 = .ok (.iload_n 1, 1) := by decide +kernel
theorem dX12_far_2 : decode cX12_far 2 = .ok (.invokevirtual 130, 3) := by decide +kernel
theorem dX12_far_5 : decode cX12_far 5 = .ok (.ifCond .eq 20, 3) := by decide +kernel
theorem dX12_far_8 : decode cX12_far 8 = .ok (.aload_n 0, 1) := by decide +kernel
theorem dX12_far_9 : decode cX12_far 9 = .ok (.iload_n 2, 1) := by decide +kernel
theorem dX12_far_10 : decode cX12_far 10 = .ok (.invokevirtual 130, 3) := by decide +kernel
theorem dX12_far_13 : decode cX12_far 13 = .ok (.ifCond .eq 12, 3) := by decide +kernel
theorem dX12_far_16 : decode cX12_far 16 = .ok (.iload_n 3, 1) := by decide +kernel
theorem dX12_far_17 : decode cX12_far 17 = .ok (.iconst 0, 1) := by decide +kernel
theorem dX12_far_18 : decode cX12_far 18 = .ok (.iconst 1, 1) := by decide +kernel
theorem dX12_far_19 : decode cX12_far 19 = .ok (.invokestatic 123, 3) := by decide +kernel
theorem dX12_far_22 : decode cX12_far 22 = .ok (.ifCond .ne 5, 3) := by decide +kernel
theorem dX12_far_25 : decode cX12_far 25 = .ok (.iconst (-1), 1) := by decide +kernel
theorem dX12_far_26 : decode cX12_far 26 = .ok (.ireturn, 1) := by decide +kernel
theorem dX12_far_27 : decode cX12_far 27 = .ok (.iload_n 1, 1) := by decide +kernel
theorem dX12_far_28 : decode cX12_far 28 = .ok (.iload_n 2, 1) := by decide +kernel
theorem dX12_far_29 : decode cX12_far 29 = .ok (.if_icmp .ne 6, 3) := by decide +kernel
theorem dX12_far_32 : decode cX12_far 32 = .ok (.bipush (-2), 2) := by decide +kernel
theorem dX12_far_34 : decode cX12_far 34 = .ok (.ireturn, 1) := by decide +kernel
theorem dX12_far_35 : decode cX12_far 35 = .ok (.aload_n 0, 1) := by decide +kernel
theorem dX12_far_36 : decode cX12_far 36 = .ok (.iload_n 1, 1) := by decide +kernel
theorem dX12_far_37 : decode cX12_far 37 = .ok (.iload_n 2, 1) := by decide +kernel
theorem dX12_far_38 : decode cX12_far 38 = .ok (.iconst (-1), 1) := by decide +kernel
theorem dX12_far_39 : decode cX12_far 39 = .ok (.invokevirtual 255, 3) := by decide +kernel
theorem dX12_far_42 : decode cX12_far 42 = .ok (.iload_n 3, 1) := by decide +kernel
theorem dX12_far_43 : decode cX12_far 43 = .ok (.ifCond .ne 10, 3) := by decide +kernel
theorem dX12_far_46 : decode cX12_far 46 = .ok (.aload_n 0, 1) := by decide +kernel
theorem dX12_far_47 : decode cX12_far 47 = .ok (.getfield 249, 3) := by decide +kernel
theorem dX12_far_50 : decode cX12_far 50 = .ok (.goto 7, 3) := by decide +kernel
theorem dX12_far_53 : decode cX12_far 53 = .ok (.aload_n 0, 1) := by decide +kernel
theorem dX12_far_54 : decode cX12_far 54 = .ok (.getfield 252, 3) := by decide +kernel
theorem dX12_far_57 : decode cX12_far 57 = .ok (.ireturn, 1) := by decide +kernel
theorem dX12_borrowed_0 : decode cX12_borrowed 0 = .ok (.aload_n 0, 1) := by decide +kernel
theorem dX12_borrowed_1 : decode cX12_borrowed 1 = .ok (.iload_n 2, 1) := by decide +kernel
theorem dX12_borrowed_2 : decode cX12_borrowed 2 = .ok (.iload_n 1, 1) := by decide +kernel
theorem dX12_borrowed_3 : decode cX12_borrowed 3 = .ok (.invokevirtual 228, 3) := by decide +kernel
theorem dX12_borrowed_6 : decode cX12_borrowed 6 = .ok (.ifCond .eq 12, 3) := by decide +kernel
theorem dX12_borrowed_9 : decode cX12_borrowed 9 = .ok (.aload_n 0, 1) := by decide +kernel
theorem dX12_borrowed_10 : decode cX12_borrowed 10 = .ok (.iload_n 3, 1) := by decide +kernel
theorem dX12_borrowed_11 : decode cX12_borrowed 11 = .ok (.iload_n 1, 1) := by decide +kernel
theorem dX12_borrowed_12 : decode cX12_borrowed 12 = .ok (.invokevirtual 228, 3) := by decide +kernel
theorem dX12_borrowed_15 : decode cX12_borrowed 15 = .ok (.ifCond .ne 5, 3) := by decide +kernel
theorem dX12_borrowed_18 : decode cX12_borrowed 18 = .ok (.iconst (-1), 1) := by decide +kernel
theorem dX12_borrowed_19 : decode cX12_borrowed 19 = .ok (.ireturn, 1) := by decide +kernel
theorem dX12_borrowed_20 : decode cX12_borrowed 20 = .ok (.iload_n 2, 1) := by decide +kernel
theorem dX12_borrowed_21 : decode cX12_borrowed 21 = .ok (.iload_n 3, 1) := by decide +kernel
theorem dX12_borrowed_22 : decode cX12_borrowed 22 = .ok (.if_icmp .ne 6, 3) := by decide +kernel
theorem dX12_borrowed_25 : decode cX12_borrowed 25 = .ok (.bipush (-2), 2) := by decide +kernel
theorem dX12_borrowed_27 : decode cX12_borrowed 27 = .ok (.ireturn, 1) := by decide +kernel
theorem dX12_borrowed_28 : decode cX12_borrowed 28 = .ok (.aload_n 0, 1) := by decide +kernel
theorem dX12_borrowed_29 : decode cX12_borrowed 29 = .ok (.iload_n 2, 1) := by decide +kernel
theorem dX12_borrowed_30 : decode cX12_borrowed 30 = .ok (.iload_n 3, 1) := by decide +kernel
theorem dX12_borrowed_31 : decode cX12_borrowed 31 = .ok (.iload_n 1, 1) := by decide +kernel
theorem dX12_borrowed_32 : decode cX12_borrowed 32 = .ok (.invokevirtual 255, 3) := by decide +kernel
theorem dX12_borrowed_35 : decode cX12_borrowed 35 = .ok (.aload_n 0, 1) := by decide +kernel
theorem dX12_borrowed_36 : decode cX12_borrowed 36 = .ok (.iload_n 2, 1) := by decide +kernel
theorem dX12_borrowed_37 : decode cX12_borrowed 37 = .ok (.iload_n 1, 1) := by decide +kernel
theorem dX12_borrowed_38 : decode cX12_borrowed 38 = .ok (.iload_n 3, 1) := by decide +kernel
theorem dX12_borrowed_39 : decode cX12_borrowed 39 = .ok (.iload_n 1, 1) := by decide +kernel
theorem dX12_borrowed_40 : decode cX12_borrowed 40 = .ok (.invokevirtual 231, 3) := by decide +kernel
theorem dX12_borrowed_43 : decode cX12_borrowed 43 = .ok (.ifCond .ne 28, 3) := by decide +kernel
theorem dX12_borrowed_46 : decode cX12_borrowed 46 = .ok (.aload_n 0, 1) := by decide +kernel
theorem dX12_borrowed_47 : decode cX12_borrowed 47 = .ok (.getfield 252, 3) := by decide +kernel
theorem dX12_borrowed_50 : decode cX12_borrowed 50 = .ok (.iconst 2, 1) := by decide +kernel
theorem dX12_borrowed_51 : decode cX12_borrowed 51 = .ok (.if_icmp .lt 20, 3) := by decide +kernel
theorem dX12_borrowed_54 : decode cX12_borrowed 54 = .ok (.aload_n 0, 1) := by decide +kernel
theorem dX12_borrowed_55 : decode cX12_borrowed 55 = .ok (.getfield 249, 3) := by decide +kernel
theorem dX12_borrowed_58 : decode cX12_borrowed 58 = .ok (.iconst 2, 1) := by decide +kernel
theorem dX12_borrowed_59 : decode cX12_borrowed 59 = .ok (.aload_n 0, 1) := by decide +kernel
theorem dX12_borrowed_60 : decode cX12_borrowed 60 = .ok (.getfield 252, 3) := by decide +kernel
theorem dX12_borrowed_63 : decode cX12_borrowed 63 = .ok (.imul, 1) := by decide +kernel
theorem dX12_borrowed_64 : decode cX12_borrowed 64 = .ok (.if_icmp .le 7, 3) := by decide +kernel
theorem dX12_borrowed_67 : decode cX12_borrowed 67 = .ok (.iconst 1, 1) := by decide +kernel
theorem dX12_borrowed_68 : decode cX12_borrowed 68 = .ok (.goto 4, 3) := by decide +kernel
theorem dX12_borrowed_71 : decode cX12_borrowed 71 = .ok (.iconst 0, 1) := by decide +kernel
theorem dX12_borrowed_72 : decode cX12_borrowed 72 = .ok (.ireturn, 1) := by decide +kernel
theorem dX12_old_0 : decode cX12_old 0 = .ok (.iload_n 1, 1) := by decide +kernel
theorem dX12_old_1 : decode cX12_old 1 = .ok (.invokestatic 134, 3) := by decide +kernel
theorem dX12_old_4 : decode cX12_old 4 = .ok (.ifCond .eq 12, 3) := by decide +kernel
theorem dX12_old_7 : decode cX12_old 7 = .ok (.iload_n 2, 1) := by decide +kernel
theorem dX12_old_8 : decode cX12_old 8 = .ok (.iconst 0, 1) := by decide +kernel
theorem dX12_old_9 : decode cX12_old 9 = .ok (.iconst 2, 1) := by decide +kernel
theorem dX12_old_10 : decode cX12_old 10 = .ok (.invokestatic 123, 3) := by decide +kernel
theorem dX12_old_13 : decode cX12_old 13 = .ok (.ifCond .ne 5, 3) := by decide +kernel
theorem dX12_old_16 : decode cX12_old 16 = .ok (.iconst (-1), 1) := by decide +kernel
theorem dX12_old_17 : decode cX12_old 17 = .ok (.ireturn, 1) := by decide +kernel
theorem dX12_old_18 : decode cX12_old 18 = .ok (.bipush (-5), 2) := by decide +kernel
theorem dX12_old_20 : decode cX12_old 20 = .ok (.istore_n 3, 1) := by decide +kernel
theorem dX12_old_21 : decode cX12_old 21 = .ok (.iconst 0, 1) := by decide +kernel
theorem dX12_old_22 : decode cX12_old 22 = .ok (.istore 4, 2) := by decide +kernel
theorem dX12_old_24 : decode cX12_old 24 = .ok (.iconst 0, 1) := by decide +kernel
theorem dX12_old_25 : decode cX12_old 25 = .ok (.istore 5, 2) := by decide +kernel
theorem dX12_old_27 : decode cX12_old 27 = .ok (.iconst 0, 1) := by decide +kernel
theorem dX12_old_28 : decode cX12_old 28 = .ok (.istore 6, 2) := by decide +kernel
theorem dX12_old_30 : decode cX12_old 30 = .ok (.iload 6, 2) := by decide +kernel
theorem dX12_old_32 : decode cX12_old 32 = .ok (.aload_n 0, 1) := by decide +kernel
theorem dX12_old_33 : decode cX12_old 33 = .ok (.getfield 120, 3) := by decide +kernel
theorem dX12_old_36 : decode cX12_old 36 = .ok (.if_icmp .ge 159, 3) := by decide +kernel
theorem dX12_old_39 : decode cX12_old 39 = .ok (.iconst 0, 1) := by decide +kernel
theorem dX12_old_40 : decode cX12_old 40 = .ok (.istore 7, 2) := by decide +kernel
theorem dX12_old_42 : decode cX12_old 42 = .ok (.iconst 0, 1) := by decide +kernel
theorem dX12_old_43 : decode cX12_old 43 = .ok (.istore 8, 2) := by decide +kernel
theorem dX12_old_45 : decode cX12_old 45 = .ok (.iload 8, 2) := by decide +kernel
theorem dX12_old_47 : decode cX12_old 47 = .ok (.aload_n 0, 1) := by decide +kernel
theorem dX12_old_48 : decode cX12_old 48 = .ok (.getfield 120, 3) := by decide +kernel
theorem dX12_old_51 : decode cX12_old 51 = .ok (.if_icmp .ge 55, 3) := by decide +kernel
theorem dX12_old_54 : decode cX12_old 54 = .ok (.iload 7, 2) := by decide +kernel
theorem dX12_old_56 : decode cX12_old 56 = .ok (.iload 8, 2) := by decide +kernel
theorem dX12_old_58 : decode cX12_old 58 = .ok (.iload 6, 2) := by decide +kernel
theorem dX12_old_60 : decode cX12_old 60 = .ok (.if_icmp .eq 36, 3) := by decide +kernel
theorem dX12_old_63 : decode cX12_old 63 = .ok (.aload_n 0, 1) := by decide +kernel
theorem dX12_old_64 : decode cX12_old 64 = .ok (.iload 6, 2) := by decide +kernel
theorem dX12_old_66 : decode cX12_old 66 = .ok (.iload_n 1, 1) := by decide +kernel
theorem dX12_old_67 : decode cX12_old 67 = .ok (.invokevirtual 228, 3) := by decide +kernel
theorem dX12_old_70 : decode cX12_old 70 = .ok (.ifCond .eq 26, 3) := by decide +kernel
theorem dX12_old_73 : decode cX12_old 73 = .ok (.aload_n 0, 1) := by decide +kernel
theorem dX12_old_74 : decode cX12_old 74 = .ok (.iload 8, 2) := by decide +kernel
theorem dX12_old_76 : decode cX12_old 76 = .ok (.iload_n 1, 1) := by decide +kernel
theorem dX12_old_77 : decode cX12_old 77 = .ok (.invokevirtual 228, 3) := by decide +kernel
theorem dX12_old_80 : decode cX12_old 80 = .ok (.ifCond .eq 16, 3) := by decide +kernel
theorem dX12_old_83 : decode cX12_old 83 = .ok (.aload_n 0, 1) := by decide +kernel
theorem dX12_old_84 : decode cX12_old 84 = .ok (.iload 6, 2) := by decide +kernel
theorem dX12_old_86 : decode cX12_old 86 = .ok (.iload_n 1, 1) := by decide +kernel
theorem dX12_old_87 : decode cX12_old 87 = .ok (.iload 8, 2) := by decide +kernel
theorem dX12_old_89 : decode cX12_old 89 = .ok (.iload_n 1, 1) := by decide +kernel
theorem dX12_old_90 : decode cX12_old 90 = .ok (.invokevirtual 231, 3) := by decide +kernel
theorem dX12_old_93 : decode cX12_old 93 = .ok (.goto 4, 3) := by decide +kernel
theorem dX12_old_96 : decode cX12_old 96 = .ok (.iconst 0, 1) := by decide +kernel
theorem dX12_old_97 : decode cX12_old 97 = .ok (.iadd, 1) := by decide +kernel
theorem dX12_old_98 : decode cX12_old 98 = .ok (.istore 7, 2) := by decide +kernel
theorem dX12_old_100 : decode cX12_old 100 = .ok (.iinc 8 1, 3) := by decide +kernel
theorem dX12_old_103 : decode cX12_old 103 = .ok (.goto (-58), 3) := by decide +kernel
theorem dX12_old_106 : decode cX12_old 106 = .ok (.aload_n 0, 1) := by decide +kernel
theorem dX12_old_107 : decode cX12_old 107 = .ok (.iload 6, 2) := by decide +kernel
theorem dX12_old_109 : decode cX12_old 109 = .ok (.iload_n 1, 1) := by decide +kernel
theorem dX12_old_110 : decode cX12_old 110 = .ok (.invokevirtual 228, 3) := by decide +kernel
theorem dX12_old_113 : decode cX12_old 113 = .ok (.ifCond .eq 76, 3) := by decide +kernel
theorem dX12_old_116 : decode cX12_old 116 = .ok (.iload_n 3, 1) := by decide +kernel
theorem dX12_old_117 : decode cX12_old 117 = .ok (.bipush (-5), 2) := by decide +kernel
theorem dX12_old_119 : decode cX12_old 119 = .ok (.if_icmp .eq 10, 3) := by decide +kernel
theorem dX12_old_122 : decode cX12_old 122 = .ok (.iload 7, 2) := by decide +kernel
theorem dX12_old_124 : decode cX12_old 124 = .ok (.iload 4, 2) := by decide +kernel
theorem dX12_old_126 : decode cX12_old 126 = .ok (.if_icmp .ge 7, 3) := by decide +kernel
theorem dX12_old_129 : decode cX12_old 129 = .ok (.iconst 1, 1) := by decide +kernel
theorem dX12_old_130 : decode cX12_old 130 = .ok (.goto 4, 3) := by decide +kernel
theorem dX12_old_133 : decode cX12_old 133 = .ok (.iconst 0, 1) := by decide +kernel
theorem dX12_old_134 : decode cX12_old 134 = .ok (.istore 8, 2) := by decide +kernel
theorem dX12_old_136 : decode cX12_old 136 = .ok (.iload 8, 2) := by decide +kernel
theorem dX12_old_138 : decode cX12_old 138 = .ok (.ifCond .eq 7, 3) := by decide +kernel
theorem dX12_old_141 : decode cX12_old 141 = .ok (.iconst 1, 1) := by decide +kernel
theorem dX12_old_142 : decode cX12_old 142 = .ok (.goto 19, 3) := by decide +kernel
theorem dX12_old_145 : decode cX12_old 145 = .ok (.iload 7, 2) := by decide +kernel
theorem dX12_old_147 : decode cX12_old 147 = .ok (.iload 4, 2) := by decide +kernel
theorem dX12_old_149 : decode cX12_old 149 = .ok (.if_icmp .ne 10, 3) := by decide +kernel
theorem dX12_old_152 : decode cX12_old 152 = .ok (.iload 5, 2) := by decide +kernel
theorem dX12_old_154 : decode cX12_old 154 = .ok (.iconst 1, 1) := by decide +kernel
theorem dX12_old_155 : decode cX12_old 155 = .ok (.iadd, 1) := by decide +kernel
theorem dX12_old_156 : decode cX12_old 156 = .ok (.goto 5, 3) := by decide +kernel
theorem dX12_old_159 : decode cX12_old 159 = .ok (.iload 5, 2) := by decide +kernel
theorem dX12_old_161 : decode cX12_old 161 = .ok (.istore 5, 2) := by decide +kernel
theorem dX12_old_163 : decode cX12_old 163 = .ok (.iload 8, 2) := by decide +kernel
theorem dX12_old_165 : decode cX12_old 165 = .ok (.ifCond .eq 8, 3) := by decide +kernel
theorem dX12_old_168 : decode cX12_old 168 = .ok (.iload 6, 2) := by decide +kernel
theorem dX12_old_170 : decode cX12_old 170 = .ok (.goto 4, 3) := by decide +kernel
theorem dX12_old_173 : decode cX12_old 173 = .ok (.iload_n 3, 1) := by decide +kernel
theorem dX12_old_174 : decode cX12_old 174 = .ok (.istore_n 3, 1) := by decide +kernel
theorem dX12_old_175 : decode cX12_old 175 = .ok (.iload 8, 2) := by decide +kernel
theorem dX12_old_177 : decode cX12_old 177 = .ok (.ifCond .eq 8, 3) := by decide +kernel
theorem dX12_old_180 : decode cX12_old 180 = .ok (.iload 7, 2) := by decide +kernel
theorem dX12_old_182 : decode cX12_old 182 = .ok (.goto 5, 3) := by decide +kernel
theorem dX12_old_185 : decode cX12_old 185 = .ok (.iload 4, 2) := by decide +kernel
theorem dX12_old_187 : decode cX12_old 187 = .ok (.istore 4, 2) := by decide +kernel
theorem dX12_old_189 : decode cX12_old 189 = .ok (.iinc 6 1, 3) := by decide +kernel
theorem dX12_old_192 : decode cX12_old 192 = .ok (.goto (-162), 3) := by decide +kernel
theorem dX12_old_195 : decode cX12_old 195 = .ok (.iload_n 3, 1) := by decide +kernel
theorem dX12_old_196 : decode cX12_old 196 = .ok (.bipush (-5), 2) := by decide +kernel
theorem dX12_old_198 : decode cX12_old 198 = .ok (.if_icmp .eq 7, 3) := by decide +kernel
theorem dX12_old_201 : decode cX12_old 201 = .ok (.iload_n 2, 1) := by decide +kernel
theorem dX12_old_202 : decode cX12_old 202 = .ok (.ifCond .ne 7, 3) := by decide +kernel
theorem dX12_old_205 : decode cX12_old 205 = .ok (.iload_n 3, 1) := by decide +kernel
theorem dX12_old_206 : decode cX12_old 206 = .ok (.goto 15, 3) := by decide +kernel
theorem dX12_old_209 : decode cX12_old 209 = .ok (.iload_n 2, 1) := by decide +kernel
theorem dX12_old_210 : decode cX12_old 210 = .ok (.iconst 1, 1) := by decide +kernel
theorem dX12_old_211 : decode cX12_old 211 = .ok (.if_icmp .ne 8, 3) := by decide +kernel
theorem dX12_old_214 : decode cX12_old 214 = .ok (.iload 4, 2) := by decide +kernel
theorem dX12_old_216 : decode cX12_old 216 = .ok (.goto 5, 3) := by decide +kernel
theorem dX12_old_219 : decode cX12_old 219 = .ok (.iload 5, 2) := by decide +kernel
theorem dX12_old_221 : decode cX12_old 221 = .ok (.ireturn, 1) := by decide +kernel
theorem dX12_tries_0 : decode cX12_tries 0 = .ok (.iconst 0, 1) := by decide +kernel
theorem dX12_tries_1 : decode cX12_tries 1 = .ok (.istore_n 3, 1) := by decide +kernel
theorem dX12_tries_2 : decode cX12_tries 2 = .ok (.iconst 0, 1) := by decide +kernel
theorem dX12_tries_3 : decode cX12_tries 3 = .ok (.istore 4, 2) := by decide +kernel
theorem dX12_tries_5 : decode cX12_tries 5 = .ok (.iconst 0, 1) := by decide +kernel
theorem dX12_tries_6 : decode cX12_tries 6 = .ok (.istore 5, 2) := by decide +kernel
theorem dX12_tries_8 : decode cX12_tries 8 = .ok (.iload 5, 2) := by decide +kernel
theorem dX12_tries_10 : decode cX12_tries 10 = .ok (.bipush 10, 2) := by decide +kernel
theorem dX12_tries_12 : decode cX12_tries 12 = .ok (.if_icmp .ge 105, 3) := by decide +kernel
theorem dX12_tries_15 : decode cX12_tries 15 = .ok (.aload_n 0, 1) := by decide +kernel
theorem dX12_tries_16 : decode cX12_tries 16 = .ok (.iload_n 1, 1) := by decide +kernel
theorem dX12_tries_17 : decode cX12_tries 17 = .ok (.iload 5, 2) := by decide +kernel
theorem dX12_tries_19 : decode cX12_tries 19 = .ok (.invokevirtual 228, 3) := by decide +kernel
theorem dX12_tries_22 : decode cX12_tries 22 = .ok (.ifCond .eq 89, 3) := by decide +kernel
theorem dX12_tries_25 : decode cX12_tries 25 = .ok (.aload_n 0, 1) := by decide +kernel
theorem dX12_tries_26 : decode cX12_tries 26 = .ok (.iload_n 2, 1) := by decide +kernel
theorem dX12_tries_27 : decode cX12_tries 27 = .ok (.iload 5, 2) := by decide +kernel
theorem dX12_tries_29 : decode cX12_tries 29 = .ok (.invokevirtual 228, 3) := by decide +kernel
theorem dX12_tries_32 : decode cX12_tries 32 = .ok (.ifCond .eq 79, 3) := by decide +kernel
theorem dX12_tries_35 : decode cX12_tries 35 = .ok (.aload_n 0, 1) := by decide +kernel
theorem dX12_tries_36 : decode cX12_tries 36 = .ok (.iload_n 1, 1) := by decide +kernel
theorem dX12_tries_37 : decode cX12_tries 37 = .ok (.iload 5, 2) := by decide +kernel
theorem dX12_tries_39 : decode cX12_tries 39 = .ok (.invokevirtual 209, 3) := by decide +kernel
theorem dX12_tries_42 : decode cX12_tries 42 = .ok (.iconst 0, 1) := by decide +kernel
theorem dX12_tries_43 : decode cX12_tries 43 = .ok (.istore 6, 2) := by decide +kernel
theorem dX12_tries_45 : decode cX12_tries 45 = .ok (.iload 6, 2) := by decide +kernel
theorem dX12_tries_47 : decode cX12_tries 47 = .ok (.aload_n 0, 1) := by decide +kernel
theorem dX12_tries_48 : decode cX12_tries 48 = .ok (.getfield 258, 3) := by decide +kernel
theorem dX12_tries_51 : decode cX12_tries 51 = .ok (.if_icmp .ge 20, 3) := by decide +kernel
theorem dX12_tries_54 : decode cX12_tries 54 = .ok (.aload_n 0, 1) := by decide +kernel
theorem dX12_tries_55 : decode cX12_tries 55 = .ok (.aload_n 0, 1) := by decide +kernel
theorem dX12_tries_56 : decode cX12_tries 56 = .ok (.getfield 90, 3) := by decide +kernel
theorem dX12_tries_59 : decode cX12_tries 59 = .ok (.iload 6, 2) := by decide +kernel
theorem dX12_tries_61 : decode cX12_tries 61 = .ok (.iaload, 1) := by decide +kernel
theorem dX12_tries_62 : decode cX12_tries 62 = .ok (.invokevirtual 212, 3) := by decide +kernel
theorem dX12_tries_65 : decode cX12_tries 65 = .ok (.iinc 6 1, 3) := by decide +kernel
theorem dX12_tries_68 : decode cX12_tries 68 = .ok (.goto (-23), 3) := by decide +kernel
theorem dX12_tries_71 : decode cX12_tries 71 = .ok (.aload_n 0, 1) := by decide +kernel
theorem dX12_tries_72 : decode cX12_tries 72 = .ok (.iload_n 2, 1) := by decide +kernel
theorem dX12_tries_73 : decode cX12_tries 73 = .ok (.iload 5, 2) := by decide +kernel
theorem dX12_tries_75 : decode cX12_tries 75 = .ok (.invokevirtual 215, 3) := by decide +kernel
theorem dX12_tries_78 : decode cX12_tries 78 = .ok (.istore 6, 2) := by decide +kernel
theorem dX12_tries_80 : decode cX12_tries 80 = .ok (.iload_n 3, 1) := by decide +kernel
theorem dX12_tries_81 : decode cX12_tries 81 = .ok (.iload 6, 2) := by decide +kernel
theorem dX12_tries_83 : decode cX12_tries 83 = .ok (.ifCond .eq 7, 3) := by decide +kernel
theorem dX12_tries_86 : decode cX12_tries 86 = .ok (.iconst 1, 1) := by decide +kernel
theorem dX12_tries_87 : decode cX12_tries 87 = .ok (.goto 4, 3) := by decide +kernel
theorem dX12_tries_90 : decode cX12_tries 90 = .ok (.iconst 0, 1) := by decide +kernel
theorem dX12_tries_91 : decode cX12_tries 91 = .ok (.iadd, 1) := by decide +kernel
theorem dX12_tries_92 : decode cX12_tries 92 = .ok (.istore_n 3, 1) := by decide +kernel
theorem dX12_tries_93 : decode cX12_tries 93 = .ok (.iload 4, 2) := by decide +kernel
theorem dX12_tries_95 : decode cX12_tries 95 = .ok (.iload 6, 2) := by decide +kernel
theorem dX12_tries_97 : decode cX12_tries 97 = .ok (.ifCond .eq 7, 3) := by decide +kernel
theorem dX12_tries_100 : decode cX12_tries 100 = .ok (.iconst 0, 1) := by decide +kernel
theorem dX12_tries_101 : decode cX12_tries 101 = .ok (.goto 7, 3) := by decide +kernel
theorem dX12_tries_104 : decode cX12_tries 104 = .ok (.iconst 1, 1) := by decide +kernel
theorem dX12_tries_105 : decode cX12_tries 105 = .ok (.iload 5, 2) := by decide +kernel
theorem dX12_tries_107 : decode cX12_tries 107 = .ok (.ishl, 1) := by decide +kernel
theorem dX12_tries_108 : decode cX12_tries 108 = .ok (.ior, 1) := by decide +kernel
theorem dX12_tries_109 : decode cX12_tries 109 = .ok (.istore 4, 2) := by decide +kernel
theorem dX12_tries_111 : decode cX12_tries 111 = .ok (.iinc 5 1, 3) := by decide +kernel
theorem dX12_tries_114 : decode cX12_tries 114 = .ok (.goto (-106), 3) := by decide +kernel
theorem dX12_tries_117 : decode cX12_tries 117 = .ok (.iload_n 3, 1) := by decide +kernel
theorem dX12_tries_118 : decode cX12_tries 118 = .ok (.aload_n 0, 1) := by decide +kernel
theorem dX12_tries_119 : decode cX12_tries 119 = .ok (.getfield 261, 3) := by decide +kernel
theorem dX12_tries_122 : decode cX12_tries 122 = .ok (.if_icmp .le 46, 3) := by decide +kernel
theorem dX12_tries_125 : decode cX12_tries 125 = .ok (.aload_n 0, 1) := by decide +kernel
theorem dX12_tries_126 : decode cX12_tries 126 = .ok (.iload_n 3, 1) := by decide +kernel
theorem dX12_tries_127 : decode cX12_tries 127 = .ok (.putfield 261, 3) := by decide +kernel
theorem dX12_tries_130 : decode cX12_tries 130 = .ok (.aload_n 0, 1) := by decide +kernel
theorem dX12_tries_131 : decode cX12_tries 131 = .ok (.iload 4, 2) := by decide +kernel
theorem dX12_tries_133 : decode cX12_tries 133 = .ok (.putfield 264, 3) := by decide +kernel
theorem dX12_tries_136 : decode cX12_tries 136 = .ok (.iconst 0, 1) := by decide +kernel
theorem dX12_tries_137 : decode cX12_tries 137 = .ok (.istore 5, 2) := by decide +kernel
theorem dX12_tries_139 : decode cX12_tries 139 = .ok (.iload 5, 2) := by decide +kernel
theorem dX12_tries_141 : decode cX12_tries 141 = .ok (.aload_n 0, 1) := by decide +kernel
theorem dX12_tries_142 : decode cX12_tries 142 = .ok (.getfield 258, 3) := by decide +kernel
theorem dX12_tries_145 : decode cX12_tries 145 = .ok (.if_icmp .ge 23, 3) := by decide +kernel
theorem dX12_tries_148 : decode cX12_tries 148 = .ok (.aload_n 0, 1) := by decide +kernel
theorem dX12_tries_149 : decode cX12_tries 149 = .ok (.getfield 93, 3) := by decide +kernel
theorem dX12_tries_152 : decode cX12_tries 152 = .ok (.iload 5, 2) := by decide +kernel
theorem dX12_tries_154 : decode cX12_tries 154 = .ok (.aload_n 0, 1) := by decide +kernel
theorem dX12_tries_155 : decode cX12_tries 155 = .ok (.getfield 90, 3) := by decide +kernel
theorem dX12_tries_158 : decode cX12_tries 158 = .ok (.iload 5, 2) := by decide +kernel
theorem dX12_tries_160 : decode cX12_tries 160 = .ok (.iaload, 1) := by decide +kernel
theorem dX12_tries_161 : decode cX12_tries 161 = .ok (.iastore, 1) := by decide +kernel
theorem dX12_tries_162 : decode cX12_tries 162 = .ok (.iinc 5 1, 3) := by decide +kernel
theorem dX12_tries_165 : decode cX12_tries 165 = .ok (.goto (-26), 3) := by decide +kernel
theorem dX12_tries_168 : decode cX12_tries 168 = .ok (.return_, 1) := by decide +kernel
theorem dX12_orders_0 : decode cX12_orders 0 = .ok (.iload_n 3, 1) := by decide +kernel
theorem dX12_orders_1 : decode cX12_orders 1 = .ok (.aload_n 0, 1) := by decide +kernel
theorem dX12_orders_2 : decode cX12_orders 2 = .ok (.getfield 258, 3) := by decide +kernel
theorem dX12_orders_5 : decode cX12_orders 5 = .ok (.if_icmp .ne 10, 3) := by decide +kernel
theorem dX12_orders_8 : decode cX12_orders 8 = .ok (.aload_n 0, 1) := by decide +kernel
theorem dX12_orders_9 : decode cX12_orders 9 = .ok (.iload_n 1, 1) := by decide +kernel
theorem dX12_orders_10 : decode cX12_orders 10 = .ok (.iload_n 2, 1) := by decide +kernel
theorem dX12_orders_11 : decode cX12_orders 11 = .ok (.invokevirtual 267, 3) := by decide +kernel
theorem dX12_orders_14 : decode cX12_orders 14 = .ok (.return_, 1) := by decide +kernel
theorem dX12_orders_15 : decode cX12_orders 15 = .ok (.iconst 0, 1) := by decide +kernel
theorem dX12_orders_16 : decode cX12_orders 16 = .ok (.istore 5, 2) := by decide +kernel
theorem dX12_orders_18 : decode cX12_orders 18 = .ok (.iload 5, 2) := by decide +kernel
theorem dX12_orders_20 : decode cX12_orders 20 = .ok (.aload_n 0, 1) := by decide +kernel
theorem dX12_orders_21 : decode cX12_orders 21 = .ok (.getfield 258, 3) := by decide +kernel
theorem dX12_orders_24 : decode cX12_orders 24 = .ok (.if_icmp .ge 48, 3) := by decide +kernel
theorem dX12_orders_27 : decode cX12_orders 27 = .ok (.iload 4, 2) := by decide +kernel
theorem dX12_orders_29 : decode cX12_orders 29 = .ok (.iload 5, 2) := by decide +kernel
theorem dX12_orders_31 : decode cX12_orders 31 = .ok (.ishr, 1) := by decide +kernel
theorem dX12_orders_32 : decode cX12_orders 32 = .ok (.iconst 1, 1) := by decide +kernel
theorem dX12_orders_33 : decode cX12_orders 33 = .ok (.iand, 1) := by decide +kernel
theorem dX12_orders_34 : decode cX12_orders 34 = .ok (.ifCond .ne 32, 3) := by decide +kernel
theorem dX12_orders_37 : decode cX12_orders 37 = .ok (.aload_n 0, 1) := by decide +kernel
theorem dX12_orders_38 : decode cX12_orders 38 = .ok (.getfield 90, 3) := by decide +kernel
theorem dX12_orders_41 : decode cX12_orders 41 = .ok (.iload_n 3, 1) := by decide +kernel
theorem dX12_orders_42 : decode cX12_orders 42 = .ok (.aload_n 0, 1) := by decide +kernel
theorem dX12_orders_43 : decode cX12_orders 43 = .ok (.getfield 87, 3) := by decide +kernel
theorem dX12_orders_46 : decode cX12_orders 46 = .ok (.iload 5, 2) := by decide +kernel
theorem dX12_orders_48 : decode cX12_orders 48 = .ok (.iaload, 1) := by decide +kernel
theorem dX12_orders_49 : decode cX12_orders 49 = .ok (.iastore, 1) := by decide +kernel
theorem dX12_orders_50 : decode cX12_orders 50 = .ok (.aload_n 0, 1) := by decide +kernel
theorem dX12_orders_51 : decode cX12_orders 51 = .ok (.iload_n 1, 1) := by decide +kernel
theorem dX12_orders_52 : decode cX12_orders 52 = .ok (.iload_n 2, 1) := by decide +kernel
theorem dX12_orders_53 : decode cX12_orders 53 = .ok (.iload_n 3, 1) := by decide +kernel
theorem dX12_orders_54 : decode cX12_orders 54 = .ok (.iconst 1, 1) := by decide +kernel
theorem dX12_orders_55 : decode cX12_orders 55 = .ok (.iadd, 1) := by decide +kernel
theorem dX12_orders_56 : decode cX12_orders 56 = .ok (.iload 4, 2) := by decide +kernel
theorem dX12_orders_58 : decode cX12_orders 58 = .ok (.iconst 1, 1) := by decide +kernel
theorem dX12_orders_59 : decode cX12_orders 59 = .ok (.iload 5, 2) := by decide +kernel
theorem dX12_orders_61 : decode cX12_orders 61 = .ok (.ishl, 1) := by decide +kernel
theorem dX12_orders_62 : decode cX12_orders 62 = .ok (.ior, 1) := by decide +kernel
theorem dX12_orders_63 : decode cX12_orders 63 = .ok (.invokevirtual 270, 3) := by decide +kernel
theorem dX12_orders_66 : decode cX12_orders 66 = .ok (.iinc 5 1, 3) := by decide +kernel
theorem dX12_orders_69 : decode cX12_orders 69 = .ok (.goto (-51), 3) := by decide +kernel
theorem dX12_orders_72 : decode cX12_orders 72 = .ok (.return_, 1) := by decide +kernel
theorem dX12_count1_0 : decode cX12_count1 0 = .ok (.iconst 0, 1) := by decide +kernel
theorem dX12_count1_1 : decode cX12_count1 1 = .ok (.istore_n 1, 1) := by decide +kernel
theorem dX12_count1_2 : decode cX12_count1 2 = .ok (.iconst 0, 1) := by decide +kernel
theorem dX12_count1_3 : decode cX12_count1 3 = .ok (.istore_n 2, 1) := by decide +kernel
theorem dX12_count1_4 : decode cX12_count1 4 = .ok (.iload_n 2, 1) := by decide +kernel
theorem dX12_count1_5 : decode cX12_count1 5 = .ok (.bipush 31, 2) := by decide +kernel
theorem dX12_count1_7 : decode cX12_count1 7 = .ok (.if_icmp .ge 17, 3) := by decide +kernel
theorem dX12_count1_10 : decode cX12_count1 10 = .ok (.iload_n 1, 1) := by decide +kernel
theorem dX12_count1_11 : decode cX12_count1 11 = .ok (.iload_n 0, 1) := by decide +kernel
theorem dX12_count1_12 : decode cX12_count1 12 = .ok (.iload_n 2, 1) := by decide +kernel
theorem dX12_count1_13 : decode cX12_count1 13 = .ok (.ishr, 1) := by decide +kernel
theorem dX12_count1_14 : decode cX12_count1 14 = .ok (.iconst 1, 1) := by decide +kernel
theorem dX12_count1_15 : decode cX12_count1 15 = .ok (.iand, 1) := by decide +kernel
theorem dX12_count1_16 : decode cX12_count1 16 = .ok (.iadd, 1) := by decide +kernel
theorem dX12_count1_17 : decode cX12_count1 17 = .ok (.istore_n 1, 1) := by decide +kernel
theorem dX12_count1_18 : decode cX12_count1 18 = .ok (.iinc 2 1, 3) := by decide +kernel
theorem dX12_count1_21 : decode cX12_count1 21 = .ok (.goto (-17), 3) := by decide +kernel
theorem dX12_count1_24 : decode cX12_count1 24 = .ok (.iload_n 1, 1) := by decide +kernel
theorem dX12_count1_25 : decode cX12_count1 25 = .ok (.ireturn, 1) := by decide +kernel
theorem dX12_best_0 : decode cX12_best 0 = .ok (.aload_n 0, 1) := by decide +kernel
theorem dX12_best_1 : decode cX12_best 1 = .ok (.iload_n 1, 1) := by decide +kernel
theorem dX12_best_2 : decode cX12_best 2 = .ok (.invokevirtual 130, 3) := by decide +kernel
theorem dX12_best_5 : decode cX12_best 5 = .ok (.ifCond .eq 18, 3) := by decide +kernel
theorem dX12_best_8 : decode cX12_best 8 = .ok (.aload_n 0, 1) := by decide +kernel
theorem dX12_best_9 : decode cX12_best 9 = .ok (.iload_n 2, 1) := by decide +kernel
theorem dX12_best_10 : decode cX12_best 10 = .ok (.invokevirtual 130, 3) := by decide +kernel
theorem dX12_best_13 : decode cX12_best 13 = .ok (.ifCond .eq 10, 3) := by decide +kernel
theorem dX12_best_16 : decode cX12_best 16 = .ok (.iload 4, 2) := by decide +kernel
theorem dX12_best_18 : decode cX12_best 18 = .ok (.bipush (-2), 2) := by decide +kernel
theorem dX12_best_20 : decode cX12_best 20 = .ok (.if_icmp .ge 5, 3) := by decide +kernel
theorem dX12_best_23 : decode cX12_best 23 = .ok (.iconst (-1), 1) := by decide +kernel
theorem dX12_best_24 : decode cX12_best 24 = .ok (.ireturn, 1) := by decide +kernel
theorem dX12_best_25 : decode cX12_best 25 = .ok (.iload_n 1, 1) := by decide +kernel
theorem dX12_best_26 : decode cX12_best 26 = .ok (.iload_n 2, 1) := by decide +kernel
theorem dX12_best_27 : decode cX12_best 27 = .ok (.if_icmp .eq 27, 3) := by decide +kernel
theorem dX12_best_30 : decode cX12_best 30 = .ok (.iload_n 3, 1) := by decide +kernel
theorem dX12_best_31 : decode cX12_best 31 = .ok (.iconst 1, 1) := by decide +kernel
theorem dX12_best_32 : decode cX12_best 32 = .ok (.iconst 1, 1) := by decide +kernel
theorem dX12_best_33 : decode cX12_best 33 = .ok (.aload_n 0, 1) := by decide +kernel
theorem dX12_best_34 : decode cX12_best 34 = .ok (.getfield 127, 3) := by decide +kernel
theorem dX12_best_37 : decode cX12_best 37 = .ok (.ishl, 1) := by decide +kernel
theorem dX12_best_38 : decode cX12_best 38 = .ok (.iconst 1, 1) := by decide +kernel
theorem dX12_best_39 : decode cX12_best 39 = .ok (.isub, 1) := by decide +kernel
theorem dX12_best_40 : decode cX12_best 40 = .ok (.invokestatic 123, 3) := by decide +kernel
theorem dX12_best_43 : decode cX12_best 43 = .ok (.ifCond .eq 11, 3) := by decide +kernel
theorem dX12_best_46 : decode cX12_best 46 = .ok (.iload_n 3, 1) := by decide +kernel
theorem dX12_best_47 : decode cX12_best 47 = .ok (.invokestatic 273, 3) := by decide +kernel
theorem dX12_best_50 : decode cX12_best 50 = .ok (.iconst 4, 1) := by decide +kernel
theorem dX12_best_51 : decode cX12_best 51 = .ok (.if_icmp .le 6, 3) := by decide +kernel
theorem dX12_best_54 : decode cX12_best 54 = .ok (.bipush (-2), 2) := by decide +kernel
theorem dX12_best_56 : decode cX12_best 56 = .ok (.ireturn, 1) := by decide +kernel
theorem dX12_best_57 : decode cX12_best 57 = .ok (.aload_n 0, 1) := by decide +kernel
theorem dX12_best_58 : decode cX12_best 58 = .ok (.iconst 0, 1) := by decide +kernel
theorem dX12_best_59 : decode cX12_best 59 = .ok (.putfield 258, 3) := by decide +kernel
theorem dX12_best_62 : decode cX12_best 62 = .ok (.iconst 0, 1) := by decide +kernel
theorem dX12_best_63 : decode cX12_best 63 = .ok (.istore 5, 2) := by decide +kernel
theorem dX12_best_65 : decode cX12_best 65 = .ok (.iload 5, 2) := by decide +kernel
theorem dX12_best_67 : decode cX12_best 67 = .ok (.aload_n 0, 1) := by decide +kernel
theorem dX12_best_68 : decode cX12_best 68 = .ok (.getfield 127, 3) := by decide +kernel
theorem dX12_best_71 : decode cX12_best 71 = .ok (.if_icmp .ge 40, 3) := by decide +kernel
theorem dX12_best_74 : decode cX12_best 74 = .ok (.iload_n 3, 1) := by decide +kernel
theorem dX12_best_75 : decode cX12_best 75 = .ok (.iload 5, 2) := by decide +kernel
theorem dX12_best_77 : decode cX12_best 77 = .ok (.ishr, 1) := by decide +kernel
theorem dX12_best_78 : decode cX12_best 78 = .ok (.iconst 1, 1) := by decide +kernel
theorem dX12_best_79 : decode cX12_best 79 = .ok (.iand, 1) := by decide +kernel
theorem dX12_best_80 : decode cX12_best 80 = .ok (.iconst 1, 1) := by decide +kernel
theorem dX12_best_81 : decode cX12_best 81 = .ok (.if_icmp .ne 24, 3) := by decide +kernel
theorem dX12_best_84 : decode cX12_best 84 = .ok (.aload_n 0, 1) := by decide +kernel
theorem dX12_best_85 : decode cX12_best 85 = .ok (.getfield 87, 3) := by decide +kernel
theorem dX12_best_88 : decode cX12_best 88 = .ok (.aload_n 0, 1) := by decide +kernel
theorem dX12_best_89 : decode cX12_best 89 = .ok (.getfield 258, 3) := by decide +kernel
theorem dX12_best_92 : decode cX12_best 92 = .ok (.iload 5, 2) := by decide +kernel
theorem dX12_best_94 : decode cX12_best 94 = .ok (.iastore, 1) := by decide +kernel
theorem dX12_best_95 : decode cX12_best 95 = .ok (.aload_n 0, 1) := by decide +kernel
theorem dX12_best_96 : decode cX12_best 96 = .ok (.dup, 1) := by decide +kernel
theorem dX12_best_97 : decode cX12_best 97 = .ok (.getfield 258, 3) := by decide +kernel
theorem dX12_best_100 : decode cX12_best 100 = .ok (.iconst 1, 1) := by decide +kernel
theorem dX12_best_101 : decode cX12_best 101 = .ok (.iadd, 1) := by decide +kernel
theorem dX12_best_102 : decode cX12_best 102 = .ok (.putfield 258, 3) := by decide +kernel
theorem dX12_best_105 : decode cX12_best 105 = .ok (.iinc 5 1, 3) := by decide +kernel
theorem dX12_best_108 : decode cX12_best 108 = .ok (.goto (-43), 3) := by decide +kernel
theorem dX12_best_111 : decode cX12_best 111 = .ok (.aload_n 0, 1) := by decide +kernel
theorem dX12_best_112 : decode cX12_best 112 = .ok (.iconst (-1), 1) := by decide +kernel
theorem dX12_best_113 : decode cX12_best 113 = .ok (.putfield 261, 3) := by decide +kernel
theorem dX12_best_116 : decode cX12_best 116 = .ok (.aload_n 0, 1) := by decide +kernel
theorem dX12_best_117 : decode cX12_best 117 = .ok (.iload_n 1, 1) := by decide +kernel
theorem dX12_best_118 : decode cX12_best 118 = .ok (.iload_n 2, 1) := by decide +kernel
theorem dX12_best_119 : decode cX12_best 119 = .ok (.iconst 0, 1) := by decide +kernel
theorem dX12_best_120 : decode cX12_best 120 = .ok (.iconst 0, 1) := by decide +kernel
theorem dX12_best_121 : decode cX12_best 121 = .ok (.invokevirtual 270, 3) := by decide +kernel
theorem dX12_best_124 : decode cX12_best 124 = .ok (.iload 4, 2) := by decide +kernel
theorem dX12_best_126 : decode cX12_best 126 = .ok (.ifCond .ge 21, 3) := by decide +kernel
theorem dX12_best_129 : decode cX12_best 129 = .ok (.iload 4, 2) := by decide +kernel
theorem dX12_best_131 : decode cX12_best 131 = .ok (.iconst (-1), 1) := by decide +kernel
theorem dX12_best_132 : decode cX12_best 132 = .ok (.if_icmp .ne 10, 3) := by decide +kernel
theorem dX12_best_135 : decode cX12_best 135 = .ok (.aload_n 0, 1) := by decide +kernel
theorem dX12_best_136 : decode cX12_best 136 = .ok (.getfield 261, 3) := by decide +kernel
theorem dX12_best_139 : decode cX12_best 139 = .ok (.goto 7, 3) := by decide +kernel
theorem dX12_best_142 : decode cX12_best 142 = .ok (.aload_n 0, 1) := by decide +kernel
theorem dX12_best_143 : decode cX12_best 143 = .ok (.getfield 264, 3) := by decide +kernel
theorem dX12_best_146 : decode cX12_best 146 = .ok (.ireturn, 1) := by decide +kernel
theorem dX12_best_147 : decode cX12_best 147 = .ok (.iload 4, 2) := by decide +kernel
theorem dX12_best_149 : decode cX12_best 149 = .ok (.aload_n 0, 1) := by decide +kernel
theorem dX12_best_150 : decode cX12_best 150 = .ok (.getfield 258, 3) := by decide +kernel
theorem dX12_best_153 : decode cX12_best 153 = .ok (.if_icmp .ge 13, 3) := by decide +kernel
theorem dX12_best_156 : decode cX12_best 156 = .ok (.aload_n 0, 1) := by decide +kernel
theorem dX12_best_157 : decode cX12_best 157 = .ok (.getfield 93, 3) := by decide +kernel
theorem dX12_best_160 : decode cX12_best 160 = .ok (.iload 4, 2) := by decide +kernel
theorem dX12_best_162 : decode cX12_best 162 = .ok (.iaload, 1) := by decide +kernel
theorem dX12_best_163 : decode cX12_best 163 = .ok (.goto 4, 3) := by decide +kernel
theorem dX12_best_166 : decode cX12_best 166 = .ok (.iconst (-1), 1) := by decide +kernel
theorem dX12_best_167 : decode cX12_best 167 = .ok (.ireturn, 1) := by decide +kernel
theorem dX12_feeds_0 : decode cX12_feeds 0 = .ok (.aload_n 0, 1) := by decide +kernel
theorem dX12_feeds_1 : decode cX12_feeds 1 = .ok (.iload_n 1, 1) := by decide +kernel
theorem dX12_feeds_2 : decode cX12_feeds 2 = .ok (.invokevirtual 130, 3) := by decide +kernel
theorem dX12_feeds_5 : decode cX12_feeds 5 = .ok (.ifCond .eq 19, 3) := by decide +kernel
theorem dX12_feeds_8 : decode cX12_feeds 8 = .ok (.aload_n 0, 1) := by decide +kernel
theorem dX12_feeds_9 : decode cX12_feeds 9 = .ok (.iload_n 2, 1) := by decide +kernel
theorem dX12_feeds_10 : decode cX12_feeds 10 = .ok (.invokevirtual 203, 3) := by decide +kernel
theorem dX12_feeds_13 : decode cX12_feeds 13 = .ok (.ifCond .eq 11, 3) := by decide +kernel
theorem dX12_feeds_16 : decode cX12_feeds 16 = .ok (.aload_n 0, 1) := by decide +kernel
theorem dX12_feeds_17 : decode cX12_feeds 17 = .ok (.iload_n 3, 1) := by decide +kernel
theorem dX12_feeds_18 : decode cX12_feeds 18 = .ok (.invokevirtual 203, 3) := by decide +kernel
theorem dX12_feeds_21 : decode cX12_feeds 21 = .ok (.ifCond .ne 5, 3) := by decide +kernel
theorem dX12_feeds_24 : decode cX12_feeds 24 = .ok (.iconst (-1), 1) := by decide +kernel
theorem dX12_feeds_25 : decode cX12_feeds 25 = .ok (.ireturn, 1) := by decide +kernel
theorem dX12_feeds_26 : decode cX12_feeds 26 = .ok (.iload_n 2, 1) := by decide +kernel
theorem dX12_feeds_27 : decode cX12_feeds 27 = .ok (.iload_n 3, 1) := by decide +kernel
theorem dX12_feeds_28 : decode cX12_feeds 28 = .ok (.if_icmp .ne 6, 3) := by decide +kernel
theorem dX12_feeds_31 : decode cX12_feeds 31 = .ok (.bipush (-2), 2) := by decide +kernel
theorem dX12_feeds_33 : decode cX12_feeds 33 = .ok (.ireturn, 1) := by decide +kernel
theorem dX12_feeds_34 : decode cX12_feeds 34 = .ok (.iconst 0, 1) := by decide +kernel
theorem dX12_feeds_35 : decode cX12_feeds 35 = .ok (.istore 4, 2) := by decide +kernel
theorem dX12_feeds_37 : decode cX12_feeds 37 = .ok (.iload 4, 2) := by decide +kernel
theorem dX12_feeds_39 : decode cX12_feeds 39 = .ok (.bipush 10, 2) := by decide +kernel
theorem dX12_feeds_41 : decode cX12_feeds 41 = .ok (.if_icmp .ge 157, 3) := by decide +kernel
theorem dX12_feeds_44 : decode cX12_feeds 44 = .ok (.aload_n 0, 1) := by decide +kernel
theorem dX12_feeds_45 : decode cX12_feeds 45 = .ok (.iload_n 1, 1) := by decide +kernel
theorem dX12_feeds_46 : decode cX12_feeds 46 = .ok (.iload 4, 2) := by decide +kernel
theorem dX12_feeds_48 : decode cX12_feeds 48 = .ok (.invokevirtual 228, 3) := by decide +kernel
theorem dX12_feeds_51 : decode cX12_feeds 51 = .ok (.ifCond .eq 141, 3) := by decide +kernel
theorem dX12_feeds_54 : decode cX12_feeds 54 = .ok (.aload_n 0, 1) := by decide +kernel
theorem dX12_feeds_55 : decode cX12_feeds 55 = .ok (.iload_n 1, 1) := by decide +kernel
theorem dX12_feeds_56 : decode cX12_feeds 56 = .ok (.iload 4, 2) := by decide +kernel
theorem dX12_feeds_58 : decode cX12_feeds 58 = .ok (.invokevirtual 209, 3) := by decide +kernel
theorem dX12_feeds_61 : decode cX12_feeds 61 = .ok (.aload_n 0, 1) := by decide +kernel
theorem dX12_feeds_62 : decode cX12_feeds 62 = .ok (.iload_n 2, 1) := by decide +kernel
theorem dX12_feeds_63 : decode cX12_feeds 63 = .ok (.invokevirtual 212, 3) := by decide +kernel
theorem dX12_feeds_66 : decode cX12_feeds 66 = .ok (.aload_n 0, 1) := by decide +kernel
theorem dX12_feeds_67 : decode cX12_feeds 67 = .ok (.iload_n 3, 1) := by decide +kernel
theorem dX12_feeds_68 : decode cX12_feeds 68 = .ok (.invokevirtual 212, 3) := by decide +kernel
theorem dX12_feeds_71 : decode cX12_feeds 71 = .ok (.aload_n 0, 1) := by decide +kernel
theorem dX12_feeds_72 : decode cX12_feeds 72 = .ok (.getfield 175, 3) := by decide +kernel
theorem dX12_feeds_75 : decode cX12_feeds 75 = .ok (.istore 5, 2) := by decide +kernel
theorem dX12_feeds_77 : decode cX12_feeds 77 = .ok (.iconst 0, 1) := by decide +kernel
theorem dX12_feeds_78 : decode cX12_feeds 78 = .ok (.istore 6, 2) := by decide +kernel
theorem dX12_feeds_80 : decode cX12_feeds 80 = .ok (.iload 6, 2) := by decide +kernel
theorem dX12_feeds_82 : decode cX12_feeds 82 = .ok (.iload 5, 2) := by decide +kernel
theorem dX12_feeds_84 : decode cX12_feeds 84 = .ok (.if_icmp .ge 23, 3) := by decide +kernel
theorem dX12_feeds_87 : decode cX12_feeds 87 = .ok (.aload_n 0, 1) := by decide +kernel
theorem dX12_feeds_88 : decode cX12_feeds 88 = .ok (.getfield 96, 3) := by decide +kernel
theorem dX12_feeds_91 : decode cX12_feeds 91 = .ok (.iload 6, 2) := by decide +kernel
theorem dX12_feeds_93 : decode cX12_feeds 93 = .ok (.aload_n 0, 1) := by decide +kernel
theorem dX12_feeds_94 : decode cX12_feeds 94 = .ok (.getfield 75, 3) := by decide +kernel
theorem dX12_feeds_97 : decode cX12_feeds 97 = .ok (.iload 6, 2) := by decide +kernel
theorem dX12_feeds_99 : decode cX12_feeds 99 = .ok (.iaload, 1) := by decide +kernel
theorem dX12_feeds_100 : decode cX12_feeds 100 = .ok (.iastore, 1) := by decide +kernel
theorem dX12_feeds_101 : decode cX12_feeds 101 = .ok (.iinc 6 1, 3) := by decide +kernel
theorem dX12_feeds_104 : decode cX12_feeds 104 = .ok (.goto (-24), 3) := by decide +kernel
theorem dX12_feeds_107 : decode cX12_feeds 107 = .ok (.aload_n 0, 1) := by decide +kernel
theorem dX12_feeds_108 : decode cX12_feeds 108 = .ok (.iload_n 1, 1) := by decide +kernel
theorem dX12_feeds_109 : decode cX12_feeds 109 = .ok (.iload 4, 2) := by decide +kernel
theorem dX12_feeds_111 : decode cX12_feeds 111 = .ok (.invokevirtual 209, 3) := by decide +kernel
theorem dX12_feeds_114 : decode cX12_feeds 114 = .ok (.aload_n 0, 1) := by decide +kernel
theorem dX12_feeds_115 : decode cX12_feeds 115 = .ok (.iload_n 3, 1) := by decide +kernel
theorem dX12_feeds_116 : decode cX12_feeds 116 = .ok (.invokevirtual 212, 3) := by decide +kernel
theorem dX12_feeds_119 : decode cX12_feeds 119 = .ok (.aload_n 0, 1) := by decide +kernel
theorem dX12_feeds_120 : decode cX12_feeds 120 = .ok (.iload_n 2, 1) := by decide +kernel
theorem dX12_feeds_121 : decode cX12_feeds 121 = .ok (.invokevirtual 212, 3) := by decide +kernel
theorem dX12_feeds_124 : decode cX12_feeds 124 = .ok (.aload_n 0, 1) := by decide +kernel
theorem dX12_feeds_125 : decode cX12_feeds 125 = .ok (.getfield 175, 3) := by decide +kernel
theorem dX12_feeds_128 : decode cX12_feeds 128 = .ok (.iload 5, 2) := by decide +kernel
theorem dX12_feeds_130 : decode cX12_feeds 130 = .ok (.if_icmp .ne 7, 3) := by decide +kernel
theorem dX12_feeds_133 : decode cX12_feeds 133 = .ok (.iconst 1, 1) := by decide +kernel
theorem dX12_feeds_134 : decode cX12_feeds 134 = .ok (.goto 4, 3) := by decide +kernel
theorem dX12_feeds_137 : decode cX12_feeds 137 = .ok (.iconst 0, 1) := by decide +kernel
theorem dX12_feeds_138 : decode cX12_feeds 138 = .ok (.istore 6, 2) := by decide +kernel
theorem dX12_feeds_140 : decode cX12_feeds 140 = .ok (.iconst 0, 1) := by decide +kernel
theorem dX12_feeds_141 : decode cX12_feeds 141 = .ok (.istore 7, 2) := by decide +kernel
theorem dX12_feeds_143 : decode cX12_feeds 143 = .ok (.iload 7, 2) := by decide +kernel
theorem dX12_feeds_145 : decode cX12_feeds 145 = .ok (.iload 5, 2) := by decide +kernel
theorem dX12_feeds_147 : decode cX12_feeds 147 = .ok (.if_icmp .ge 38, 3) := by decide +kernel
theorem dX12_feeds_150 : decode cX12_feeds 150 = .ok (.iload 6, 2) := by decide +kernel
theorem dX12_feeds_152 : decode cX12_feeds 152 = .ok (.ifCond .eq 33, 3) := by decide +kernel
theorem dX12_feeds_155 : decode cX12_feeds 155 = .ok (.aload_n 0, 1) := by decide +kernel
theorem dX12_feeds_156 : decode cX12_feeds 156 = .ok (.getfield 75, 3) := by decide +kernel
theorem dX12_feeds_159 : decode cX12_feeds 159 = .ok (.iload 7, 2) := by decide +kernel
theorem dX12_feeds_161 : decode cX12_feeds 161 = .ok (.iaload, 1) := by decide +kernel
theorem dX12_feeds_162 : decode cX12_feeds 162 = .ok (.aload_n 0, 1) := by decide +kernel
theorem dX12_feeds_163 : decode cX12_feeds 163 = .ok (.getfield 96, 3) := by decide +kernel
theorem dX12_feeds_166 : decode cX12_feeds 166 = .ok (.iload 7, 2) := by decide +kernel
theorem dX12_feeds_168 : decode cX12_feeds 168 = .ok (.iaload, 1) := by decide +kernel
theorem dX12_feeds_169 : decode cX12_feeds 169 = .ok (.if_icmp .ne 7, 3) := by decide +kernel
theorem dX12_feeds_172 : decode cX12_feeds 172 = .ok (.iconst 1, 1) := by decide +kernel
theorem dX12_feeds_173 : decode cX12_feeds 173 = .ok (.goto 4, 3) := by decide +kernel
theorem dX12_feeds_176 : decode cX12_feeds 176 = .ok (.iconst 0, 1) := by decide +kernel
theorem dX12_feeds_177 : decode cX12_feeds 177 = .ok (.istore 6, 2) := by decide +kernel
theorem dX12_feeds_179 : decode cX12_feeds 179 = .ok (.iinc 7 1, 3) := by decide +kernel
theorem dX12_feeds_182 : decode cX12_feeds 182 = .ok (.goto (-39), 3) := by decide +kernel
theorem dX12_feeds_185 : decode cX12_feeds 185 = .ok (.iload 6, 2) := by decide +kernel
theorem dX12_feeds_187 : decode cX12_feeds 187 = .ok (.ifCond .ne 5, 3) := by decide +kernel
theorem dX12_feeds_190 : decode cX12_feeds 190 = .ok (.iconst 1, 1) := by decide +kernel
theorem dX12_feeds_191 : decode cX12_feeds 191 = .ok (.ireturn, 1) := by decide +kernel
theorem dX12_feeds_192 : decode cX12_feeds 192 = .ok (.iinc 4 1, 3) := by decide +kernel
theorem dX12_feeds_195 : decode cX12_feeds 195 = .ok (.goto (-158), 3) := by decide +kernel
theorem dX12_feeds_198 : decode cX12_feeds 198 = .ok (.iconst 0, 1) := by decide +kernel
theorem dX12_feeds_199 : decode cX12_feeds 199 = .ok (.ireturn, 1) := by decide +kernel
theorem dX12_refuses_0 : decode cX12_refuses 0 = .ok (.iload_n 1, 1) := by decide +kernel
theorem dX12_refuses_1 : decode cX12_refuses 1 = .ok (.iconst 1, 1) := by decide +kernel
theorem dX12_refuses_2 : decode cX12_refuses 2 = .ok (.iconst 1, 1) := by decide +kernel
theorem dX12_refuses_3 : decode cX12_refuses 3 = .ok (.aload_n 0, 1) := by decide +kernel
theorem dX12_refuses_4 : decode cX12_refuses 4 = .ok (.getfield 120, 3) := by decide +kernel
theorem dX12_refuses_7 : decode cX12_refuses 7 = .ok (.ishl, 1) := by decide +kernel
theorem dX12_refuses_8 : decode cX12_refuses 8 = .ok (.iconst 1, 1) := by decide +kernel
theorem dX12_refuses_9 : decode cX12_refuses 9 = .ok (.isub, 1) := by decide +kernel
theorem dX12_refuses_10 : decode cX12_refuses 10 = .ok (.invokestatic 123, 3) := by decide +kernel
theorem dX12_refuses_13 : decode cX12_refuses 13 = .ok (.ifCond .eq 11, 3) := by decide +kernel
theorem dX12_refuses_16 : decode cX12_refuses 16 = .ok (.iload_n 1, 1) := by decide +kernel
theorem dX12_refuses_17 : decode cX12_refuses 17 = .ok (.invokestatic 273, 3) := by decide +kernel
theorem dX12_refuses_20 : decode cX12_refuses 20 = .ok (.iconst 3, 1) := by decide +kernel
theorem dX12_refuses_21 : decode cX12_refuses 21 = .ok (.if_icmp .ge 6, 3) := by decide +kernel
theorem dX12_refuses_24 : decode cX12_refuses 24 = .ok (.bipush (-2), 2) := by decide +kernel
theorem dX12_refuses_26 : decode cX12_refuses 26 = .ok (.ireturn, 1) := by decide +kernel
theorem dX12_refuses_27 : decode cX12_refuses 27 = .ok (.aload_n 0, 1) := by decide +kernel
theorem dX12_refuses_28 : decode cX12_refuses 28 = .ok (.iconst 0, 1) := by decide +kernel
theorem dX12_refuses_29 : decode cX12_refuses 29 = .ok (.putfield 277, 3) := by decide +kernel
theorem dX12_refuses_32 : decode cX12_refuses 32 = .ok (.iconst 0, 1) := by decide +kernel
theorem dX12_refuses_33 : decode cX12_refuses 33 = .ok (.istore_n 2, 1) := by decide +kernel
theorem dX12_refuses_34 : decode cX12_refuses 34 = .ok (.iload_n 2, 1) := by decide +kernel
theorem dX12_refuses_35 : decode cX12_refuses 35 = .ok (.aload_n 0, 1) := by decide +kernel
theorem dX12_refuses_36 : decode cX12_refuses 36 = .ok (.getfield 120, 3) := by decide +kernel
theorem dX12_refuses_39 : decode cX12_refuses 39 = .ok (.if_icmp .ge 38, 3) := by decide +kernel
theorem dX12_refuses_42 : decode cX12_refuses 42 = .ok (.iload_n 1, 1) := by decide +kernel
theorem dX12_refuses_43 : decode cX12_refuses 43 = .ok (.iload_n 2, 1) := by decide +kernel
theorem dX12_refuses_44 : decode cX12_refuses 44 = .ok (.ishr, 1) := by decide +kernel
theorem dX12_refuses_45 : decode cX12_refuses 45 = .ok (.iconst 1, 1) := by decide +kernel
theorem dX12_refuses_46 : decode cX12_refuses 46 = .ok (.iand, 1) := by decide +kernel
theorem dX12_refuses_47 : decode cX12_refuses 47 = .ok (.iconst 1, 1) := by decide +kernel
theorem dX12_refuses_48 : decode cX12_refuses 48 = .ok (.if_icmp .ne 23, 3) := by decide +kernel
theorem dX12_refuses_51 : decode cX12_refuses 51 = .ok (.aload_n 0, 1) := by decide +kernel
theorem dX12_refuses_52 : decode cX12_refuses 52 = .ok (.getfield 99, 3) := by decide +kernel
theorem dX12_refuses_55 : decode cX12_refuses 55 = .ok (.aload_n 0, 1) := by decide +kernel
theorem dX12_refuses_56 : decode cX12_refuses 56 = .ok (.getfield 277, 3) := by decide +kernel
theorem dX12_refuses_59 : decode cX12_refuses 59 = .ok (.iload_n 2, 1) := by decide +kernel
theorem dX12_refuses_60 : decode cX12_refuses 60 = .ok (.iastore, 1) := by decide +kernel
theorem dX12_refuses_61 : decode cX12_refuses 61 = .ok (.aload_n 0, 1) := by decide +kernel
theorem dX12_refuses_62 : decode cX12_refuses 62 = .ok (.dup, 1) := by decide +kernel
theorem dX12_refuses_63 : decode cX12_refuses 63 = .ok (.getfield 277, 3) := by decide +kernel
theorem dX12_refuses_66 : decode cX12_refuses 66 = .ok (.iconst 1, 1) := by decide +kernel
theorem dX12_refuses_67 : decode cX12_refuses 67 = .ok (.iadd, 1) := by decide +kernel
theorem dX12_refuses_68 : decode cX12_refuses 68 = .ok (.putfield 277, 3) := by decide +kernel
theorem dX12_refuses_71 : decode cX12_refuses 71 = .ok (.iinc 2 1, 3) := by decide +kernel
theorem dX12_refuses_74 : decode cX12_refuses 74 = .ok (.goto (-40), 3) := by decide +kernel
theorem dX12_refuses_77 : decode cX12_refuses 77 = .ok (.iconst 0, 1) := by decide +kernel
theorem dX12_refuses_78 : decode cX12_refuses 78 = .ok (.istore_n 2, 1) := by decide +kernel
theorem dX12_refuses_79 : decode cX12_refuses 79 = .ok (.iload_n 2, 1) := by decide +kernel
theorem dX12_refuses_80 : decode cX12_refuses 80 = .ok (.bipush 10, 2) := by decide +kernel
theorem dX12_refuses_82 : decode cX12_refuses 82 = .ok (.if_icmp .ge 102, 3) := by decide +kernel
theorem dX12_refuses_85 : decode cX12_refuses 85 = .ok (.iconst 0, 1) := by decide +kernel
theorem dX12_refuses_86 : decode cX12_refuses 86 = .ok (.istore_n 3, 1) := by decide +kernel
theorem dX12_refuses_87 : decode cX12_refuses 87 = .ok (.iload_n 3, 1) := by decide +kernel
theorem dX12_refuses_88 : decode cX12_refuses 88 = .ok (.aload_n 0, 1) := by decide +kernel
theorem dX12_refuses_89 : decode cX12_refuses 89 = .ok (.getfield 277, 3) := by decide +kernel
theorem dX12_refuses_92 : decode cX12_refuses 92 = .ok (.if_icmp .ge 86, 3) := by decide +kernel
theorem dX12_refuses_95 : decode cX12_refuses 95 = .ok (.aload_n 0, 1) := by decide +kernel
theorem dX12_refuses_96 : decode cX12_refuses 96 = .ok (.getfield 99, 3) := by decide +kernel
theorem dX12_refuses_99 : decode cX12_refuses 99 = .ok (.iload_n 3, 1) := by decide +kernel
theorem dX12_refuses_100 : decode cX12_refuses 100 = .ok (.iaload, 1) := by decide +kernel
theorem dX12_refuses_101 : decode cX12_refuses 101 = .ok (.istore 4, 2) := by decide +kernel
theorem dX12_refuses_103 : decode cX12_refuses 103 = .ok (.aload_n 0, 1) := by decide +kernel
theorem dX12_refuses_104 : decode cX12_refuses 104 = .ok (.iload 4, 2) := by decide +kernel
theorem dX12_refuses_106 : decode cX12_refuses 106 = .ok (.iload_n 2, 1) := by decide +kernel
theorem dX12_refuses_107 : decode cX12_refuses 107 = .ok (.invokevirtual 228, 3) := by decide +kernel
theorem dX12_refuses_110 : decode cX12_refuses 110 = .ok (.ifCond .eq 13, 3) := by decide +kernel
theorem dX12_refuses_113 : decode cX12_refuses 113 = .ok (.aload_n 0, 1) := by decide +kernel
theorem dX12_refuses_114 : decode cX12_refuses 114 = .ok (.iload_n 2, 1) := by decide +kernel
theorem dX12_refuses_115 : decode cX12_refuses 115 = .ok (.iload 4, 2) := by decide +kernel
theorem dX12_refuses_117 : decode cX12_refuses 117 = .ok (.invokevirtual 246, 3) := by decide +kernel
theorem dX12_refuses_120 : decode cX12_refuses 120 = .ok (.goto 4, 3) := by decide +kernel
theorem dX12_refuses_123 : decode cX12_refuses 123 = .ok (.iconst 0, 1) := by decide +kernel
theorem dX12_refuses_124 : decode cX12_refuses 124 = .ok (.istore 5, 2) := by decide +kernel
theorem dX12_refuses_126 : decode cX12_refuses 126 = .ok (.iconst 0, 1) := by decide +kernel
theorem dX12_refuses_127 : decode cX12_refuses 127 = .ok (.istore 6, 2) := by decide +kernel
theorem dX12_refuses_129 : decode cX12_refuses 129 = .ok (.iload 5, 2) := by decide +kernel
theorem dX12_refuses_131 : decode cX12_refuses 131 = .ok (.ifCond .le 19, 3) := by decide +kernel
theorem dX12_refuses_134 : decode cX12_refuses 134 = .ok (.iload 5, 2) := by decide +kernel
theorem dX12_refuses_136 : decode cX12_refuses 136 = .ok (.iload 6, 2) := by decide +kernel
theorem dX12_refuses_138 : decode cX12_refuses 138 = .ok (.ishr, 1) := by decide +kernel
theorem dX12_refuses_139 : decode cX12_refuses 139 = .ok (.iconst 1, 1) := by decide +kernel
theorem dX12_refuses_140 : decode cX12_refuses 140 = .ok (.iand, 1) := by decide +kernel
theorem dX12_refuses_141 : decode cX12_refuses 141 = .ok (.ifCond .ne 9, 3) := by decide +kernel
theorem dX12_refuses_144 : decode cX12_refuses 144 = .ok (.iinc 6 1, 3) := by decide +kernel
theorem dX12_refuses_147 : decode cX12_refuses 147 = .ok (.goto (-18), 3) := by decide +kernel
theorem dX12_refuses_150 : decode cX12_refuses 150 = .ok (.aload_n 0, 1) := by decide +kernel
theorem dX12_refuses_151 : decode cX12_refuses 151 = .ok (.getfield 108, 3) := by decide +kernel
theorem dX12_refuses_154 : decode cX12_refuses 154 = .ok (.bipush 6, 2) := by decide +kernel
theorem dX12_refuses_156 : decode cX12_refuses 156 = .ok (.iload_n 2, 1) := by decide +kernel
theorem dX12_refuses_157 : decode cX12_refuses 157 = .ok (.imul, 1) := by decide +kernel
theorem dX12_refuses_158 : decode cX12_refuses 158 = .ok (.iload_n 3, 1) := by decide +kernel
theorem dX12_refuses_159 : decode cX12_refuses 159 = .ok (.iadd, 1) := by decide +kernel
theorem dX12_refuses_160 : decode cX12_refuses 160 = .ok (.iload 5, 2) := by decide +kernel
theorem dX12_refuses_162 : decode cX12_refuses 162 = .ok (.ifCond .ne 7, 3) := by decide +kernel
theorem dX12_refuses_165 : decode cX12_refuses 165 = .ok (.iconst (-1), 1) := by decide +kernel
theorem dX12_refuses_166 : decode cX12_refuses 166 = .ok (.goto 5, 3) := by decide +kernel
theorem dX12_refuses_169 : decode cX12_refuses 169 = .ok (.iload 6, 2) := by decide +kernel
theorem dX12_refuses_171 : decode cX12_refuses 171 = .ok (.iastore, 1) := by decide +kernel
theorem dX12_refuses_172 : decode cX12_refuses 172 = .ok (.iinc 3 1, 3) := by decide +kernel
theorem dX12_refuses_175 : decode cX12_refuses 175 = .ok (.goto (-88), 3) := by decide +kernel
theorem dX12_refuses_178 : decode cX12_refuses 178 = .ok (.iinc 2 1, 3) := by decide +kernel
theorem dX12_refuses_181 : decode cX12_refuses 181 = .ok (.goto (-102), 3) := by decide +kernel
theorem dX12_refuses_184 : decode cX12_refuses 184 = .ok (.iconst 0, 1) := by decide +kernel
theorem dX12_refuses_185 : decode cX12_refuses 185 = .ok (.ireturn, 1) := by decide +kernel
theorem dX12_trees_0 : decode cX12_trees 0 = .ok (.aload_n 0, 1) := by decide +kernel
theorem dX12_trees_1 : decode cX12_trees 1 = .ok (.getfield 277, 3) := by decide +kernel
theorem dX12_trees_4 : decode cX12_trees 4 = .ok (.iconst 3, 1) := by decide +kernel
theorem dX12_trees_5 : decode cX12_trees 5 = .ok (.if_icmp .ne 7, 3) := by decide +kernel
theorem dX12_trees_8 : decode cX12_trees 8 = .ok (.iconst 1, 1) := by decide +kernel
theorem dX12_trees_9 : decode cX12_trees 9 = .ok (.goto 30, 3) := by decide +kernel
theorem dX12_trees_12 : decode cX12_trees 12 = .ok (.aload_n 0, 1) := by decide +kernel
theorem dX12_trees_13 : decode cX12_trees 13 = .ok (.getfield 277, 3) := by decide +kernel
theorem dX12_trees_16 : decode cX12_trees 16 = .ok (.iconst 4, 1) := by decide +kernel
theorem dX12_trees_17 : decode cX12_trees 17 = .ok (.if_icmp .ne 7, 3) := by decide +kernel
theorem dX12_trees_20 : decode cX12_trees 20 = .ok (.iconst 3, 1) := by decide +kernel
theorem dX12_trees_21 : decode cX12_trees 21 = .ok (.goto 18, 3) := by decide +kernel
theorem dX12_trees_24 : decode cX12_trees 24 = .ok (.aload_n 0, 1) := by decide +kernel
theorem dX12_trees_25 : decode cX12_trees 25 = .ok (.getfield 277, 3) := by decide +kernel
theorem dX12_trees_28 : decode cX12_trees 28 = .ok (.iconst 5, 1) := by decide +kernel
theorem dX12_trees_29 : decode cX12_trees 29 = .ok (.if_icmp .ne 8, 3) := by decide +kernel
theorem dX12_trees_32 : decode cX12_trees 32 = .ok (.bipush 15, 2) := by decide +kernel
theorem dX12_trees_34 : decode cX12_trees 34 = .ok (.goto 5, 3) := by decide +kernel
theorem dX12_trees_37 : decode cX12_trees 37 = .ok (.bipush 105, 2) := by decide +kernel
theorem dX12_trees_39 : decode cX12_trees 39 = .ok (.ireturn, 1) := by decide +kernel
theorem dX12_grows_0 : decode cX12_grows 0 = .ok (.aload_n 0, 1) := by decide +kernel
theorem dX12_grows_1 : decode cX12_grows 1 = .ok (.iconst 3, 1) := by decide +kernel
theorem dX12_grows_2 : decode cX12_grows 2 = .ok (.putfield 280, 3) := by decide +kernel
theorem dX12_grows_5 : decode cX12_grows 5 = .ok (.aload_n 0, 1) := by decide +kernel
theorem dX12_grows_6 : decode cX12_grows 6 = .ok (.bipush 7, 2) := by decide +kernel
theorem dX12_grows_8 : decode cX12_grows 8 = .ok (.putfield 283, 3) := by decide +kernel
theorem dX12_grows_11 : decode cX12_grows 11 = .ok (.iconst 0, 1) := by decide +kernel
theorem dX12_grows_12 : decode cX12_grows 12 = .ok (.istore_n 2, 1) := by decide +kernel
theorem dX12_grows_13 : decode cX12_grows 13 = .ok (.iload_n 2, 1) := by decide +kernel
theorem dX12_grows_14 : decode cX12_grows 14 = .ok (.iconst 3, 1) := by decide +kernel
theorem dX12_grows_15 : decode cX12_grows 15 = .ok (.if_icmp .ge 24, 3) := by decide +kernel
theorem dX12_grows_18 : decode cX12_grows 18 = .ok (.aload_n 0, 1) := by decide +kernel
theorem dX12_grows_19 : decode cX12_grows 19 = .ok (.getfield 102, 3) := by decide +kernel
theorem dX12_grows_22 : decode cX12_grows 22 = .ok (.iload_n 2, 1) := by decide +kernel
theorem dX12_grows_23 : decode cX12_grows 23 = .ok (.bipush 6, 2) := by decide +kernel
theorem dX12_grows_25 : decode cX12_grows 25 = .ok (.iastore, 1) := by decide +kernel
theorem dX12_grows_26 : decode cX12_grows 26 = .ok (.aload_n 0, 1) := by decide +kernel
theorem dX12_grows_27 : decode cX12_grows 27 = .ok (.getfield 105, 3) := by decide +kernel
theorem dX12_grows_30 : decode cX12_grows 30 = .ok (.iload_n 2, 1) := by decide +kernel
theorem dX12_grows_31 : decode cX12_grows 31 = .ok (.iload_n 2, 1) := by decide +kernel
theorem dX12_grows_32 : decode cX12_grows 32 = .ok (.iastore, 1) := by decide +kernel
theorem dX12_grows_33 : decode cX12_grows 33 = .ok (.iinc 2 1, 3) := by decide +kernel
theorem dX12_grows_36 : decode cX12_grows 36 = .ok (.goto (-23), 3) := by decide +kernel
theorem dX12_grows_39 : decode cX12_grows 39 = .ok (.iload_n 1, 1) := by decide +kernel
theorem dX12_grows_40 : decode cX12_grows 40 = .ok (.istore_n 2, 1) := by decide +kernel
theorem dX12_grows_41 : decode cX12_grows 41 = .ok (.aload_n 0, 1) := by decide +kernel
theorem dX12_grows_42 : decode cX12_grows 42 = .ok (.invokevirtual 286, 3) := by decide +kernel
theorem dX12_grows_45 : decode cX12_grows 45 = .ok (.istore_n 3, 1) := by decide +kernel
theorem dX12_grows_46 : decode cX12_grows 46 = .ok (.iconst 3, 1) := by decide +kernel
theorem dX12_grows_47 : decode cX12_grows 47 = .ok (.istore 4, 2) := by decide +kernel
theorem dX12_grows_49 : decode cX12_grows 49 = .ok (.iload 4, 2) := by decide +kernel
theorem dX12_grows_51 : decode cX12_grows 51 = .ok (.aload_n 0, 1) := by decide +kernel
theorem dX12_grows_52 : decode cX12_grows 52 = .ok (.getfield 277, 3) := by decide +kernel
theorem dX12_grows_55 : decode cX12_grows 55 = .ok (.if_icmp .ge 119, 3) := by decide +kernel
theorem dX12_grows_58 : decode cX12_grows 58 = .ok (.iconst 2, 1) := by decide +kernel
theorem dX12_grows_59 : decode cX12_grows 59 = .ok (.iload 4, 2) := by decide +kernel
theorem dX12_grows_61 : decode cX12_grows 61 = .ok (.imul, 1) := by decide +kernel
theorem dX12_grows_62 : decode cX12_grows 62 = .ok (.iconst 3, 1) := by decide +kernel
theorem dX12_grows_63 : decode cX12_grows 63 = .ok (.isub, 1) := by decide +kernel
theorem dX12_grows_64 : decode cX12_grows 64 = .ok (.istore 5, 2) := by decide +kernel
theorem dX12_grows_66 : decode cX12_grows 66 = .ok (.iload_n 3, 1) := by decide +kernel
theorem dX12_grows_67 : decode cX12_grows 67 = .ok (.iload 5, 2) := by decide +kernel
theorem dX12_grows_69 : decode cX12_grows 69 = .ok (.idiv, 1) := by decide +kernel
theorem dX12_grows_70 : decode cX12_grows 70 = .ok (.istore_n 3, 1) := by decide +kernel
theorem dX12_grows_71 : decode cX12_grows 71 = .ok (.iload_n 2, 1) := by decide +kernel
theorem dX12_grows_72 : decode cX12_grows 72 = .ok (.iload_n 3, 1) := by decide +kernel
theorem dX12_grows_73 : decode cX12_grows 73 = .ok (.idiv, 1) := by decide +kernel
theorem dX12_grows_74 : decode cX12_grows 74 = .ok (.istore 6, 2) := by decide +kernel
theorem dX12_grows_76 : decode cX12_grows 76 = .ok (.iload_n 2, 1) := by decide +kernel
theorem dX12_grows_77 : decode cX12_grows 77 = .ok (.iload_n 3, 1) := by decide +kernel
theorem dX12_grows_78 : decode cX12_grows 78 = .ok (.irem, 1) := by decide +kernel
theorem dX12_grows_79 : decode cX12_grows 79 = .ok (.istore_n 2, 1) := by decide +kernel
theorem dX12_grows_80 : decode cX12_grows 80 = .ok (.aload_n 0, 1) := by decide +kernel
theorem dX12_grows_81 : decode cX12_grows 81 = .ok (.getfield 102, 3) := by decide +kernel
theorem dX12_grows_84 : decode cX12_grows 84 = .ok (.aload_n 0, 1) := by decide +kernel
theorem dX12_grows_85 : decode cX12_grows 85 = .ok (.getfield 280, 3) := by decide +kernel
theorem dX12_grows_88 : decode cX12_grows 88 = .ok (.aload_n 0, 1) := by decide +kernel
theorem dX12_grows_89 : decode cX12_grows 89 = .ok (.getfield 283, 3) := by decide +kernel
theorem dX12_grows_92 : decode cX12_grows 92 = .ok (.iastore, 1) := by decide +kernel
theorem dX12_grows_93 : decode cX12_grows 93 = .ok (.aload_n 0, 1) := by decide +kernel
theorem dX12_grows_94 : decode cX12_grows 94 = .ok (.getfield 105, 3) := by decide +kernel
theorem dX12_grows_97 : decode cX12_grows 97 = .ok (.aload_n 0, 1) := by decide +kernel
theorem dX12_grows_98 : decode cX12_grows 98 = .ok (.getfield 280, 3) := by decide +kernel
theorem dX12_grows_101 : decode cX12_grows 101 = .ok (.aload_n 0, 1) := by decide +kernel
theorem dX12_grows_102 : decode cX12_grows 102 = .ok (.getfield 105, 3) := by decide +kernel
theorem dX12_grows_105 : decode cX12_grows 105 = .ok (.iload 6, 2) := by decide +kernel
theorem dX12_grows_107 : decode cX12_grows 107 = .ok (.iaload, 1) := by decide +kernel
theorem dX12_grows_108 : decode cX12_grows 108 = .ok (.iastore, 1) := by decide +kernel
theorem dX12_grows_109 : decode cX12_grows 109 = .ok (.aload_n 0, 1) := by decide +kernel
theorem dX12_grows_110 : decode cX12_grows 110 = .ok (.getfield 105, 3) := by decide +kernel
theorem dX12_grows_113 : decode cX12_grows 113 = .ok (.iload 6, 2) := by decide +kernel
theorem dX12_grows_115 : decode cX12_grows 115 = .ok (.aload_n 0, 1) := by decide +kernel
theorem dX12_grows_116 : decode cX12_grows 116 = .ok (.getfield 283, 3) := by decide +kernel
theorem dX12_grows_119 : decode cX12_grows 119 = .ok (.iastore, 1) := by decide +kernel
theorem dX12_grows_120 : decode cX12_grows 120 = .ok (.aload_n 0, 1) := by decide +kernel
theorem dX12_grows_121 : decode cX12_grows 121 = .ok (.getfield 102, 3) := by decide +kernel
theorem dX12_grows_124 : decode cX12_grows 124 = .ok (.aload_n 0, 1) := by decide +kernel
theorem dX12_grows_125 : decode cX12_grows 125 = .ok (.getfield 280, 3) := by decide +kernel
theorem dX12_grows_128 : decode cX12_grows 128 = .ok (.iconst 1, 1) := by decide +kernel
theorem dX12_grows_129 : decode cX12_grows 129 = .ok (.iadd, 1) := by decide +kernel
theorem dX12_grows_130 : decode cX12_grows 130 = .ok (.aload_n 0, 1) := by decide +kernel
theorem dX12_grows_131 : decode cX12_grows 131 = .ok (.getfield 283, 3) := by decide +kernel
theorem dX12_grows_134 : decode cX12_grows 134 = .ok (.iastore, 1) := by decide +kernel
theorem dX12_grows_135 : decode cX12_grows 135 = .ok (.aload_n 0, 1) := by decide +kernel
theorem dX12_grows_136 : decode cX12_grows 136 = .ok (.getfield 105, 3) := by decide +kernel
theorem dX12_grows_139 : decode cX12_grows 139 = .ok (.aload_n 0, 1) := by decide +kernel
theorem dX12_grows_140 : decode cX12_grows 140 = .ok (.getfield 280, 3) := by decide +kernel
theorem dX12_grows_143 : decode cX12_grows 143 = .ok (.iconst 1, 1) := by decide +kernel
theorem dX12_grows_144 : decode cX12_grows 144 = .ok (.iadd, 1) := by decide +kernel
theorem dX12_grows_145 : decode cX12_grows 145 = .ok (.iload 4, 2) := by decide +kernel
theorem dX12_grows_147 : decode cX12_grows 147 = .ok (.iastore, 1) := by decide +kernel
theorem dX12_grows_148 : decode cX12_grows 148 = .ok (.aload_n 0, 1) := by decide +kernel
theorem dX12_grows_149 : decode cX12_grows 149 = .ok (.dup, 1) := by decide +kernel
theorem dX12_grows_150 : decode cX12_grows 150 = .ok (.getfield 280, 3) := by decide +kernel
theorem dX12_grows_153 : decode cX12_grows 153 = .ok (.iconst 2, 1) := by decide +kernel
theorem dX12_grows_154 : decode cX12_grows 154 = .ok (.iadd, 1) := by decide +kernel
theorem dX12_grows_155 : decode cX12_grows 155 = .ok (.putfield 280, 3) := by decide +kernel
theorem dX12_grows_158 : decode cX12_grows 158 = .ok (.aload_n 0, 1) := by decide +kernel
theorem dX12_grows_159 : decode cX12_grows 159 = .ok (.dup, 1) := by decide +kernel
theorem dX12_grows_160 : decode cX12_grows 160 = .ok (.getfield 283, 3) := by decide +kernel
theorem dX12_grows_163 : decode cX12_grows 163 = .ok (.iconst 1, 1) := by decide +kernel
theorem dX12_grows_164 : decode cX12_grows 164 = .ok (.iadd, 1) := by decide +kernel
theorem dX12_grows_165 : decode cX12_grows 165 = .ok (.putfield 283, 3) := by decide +kernel
theorem dX12_grows_168 : decode cX12_grows 168 = .ok (.iinc 4 1, 3) := by decide +kernel
theorem dX12_grows_171 : decode cX12_grows 171 = .ok (.goto (-122), 3) := by decide +kernel
theorem dX12_grows_174 : decode cX12_grows 174 = .ok (.return_, 1) := by decide +kernel
theorem dX12_below_0 : decode cX12_below 0 = .ok (.iload_n 2, 1) := by decide +kernel
theorem dX12_below_1 : decode cX12_below 1 = .ok (.bipush 6, 2) := by decide +kernel
theorem dX12_below_3 : decode cX12_below 3 = .ok (.if_icmp .ge 40, 3) := by decide +kernel
theorem dX12_below_6 : decode cX12_below 6 = .ok (.aload_n 0, 1) := by decide +kernel
theorem dX12_below_7 : decode cX12_below 7 = .ok (.getfield 108, 3) := by decide +kernel
theorem dX12_below_10 : decode cX12_below 10 = .ok (.bipush 6, 2) := by decide +kernel
theorem dX12_below_12 : decode cX12_below 12 = .ok (.iload_n 1, 1) := by decide +kernel
theorem dX12_below_13 : decode cX12_below 13 = .ok (.imul, 1) := by decide +kernel
theorem dX12_below_14 : decode cX12_below 14 = .ok (.iload_n 2, 1) := by decide +kernel
theorem dX12_below_15 : decode cX12_below 15 = .ok (.iadd, 1) := by decide +kernel
theorem dX12_below_16 : decode cX12_below 16 = .ok (.iaload, 1) := by decide +kernel
theorem dX12_below_17 : decode cX12_below 17 = .ok (.iconst (-1), 1) := by decide +kernel
theorem dX12_below_18 : decode cX12_below 18 = .ok (.if_icmp .eq 18, 3) := by decide +kernel
theorem dX12_below_21 : decode cX12_below 21 = .ok (.aload_n 0, 1) := by decide +kernel
theorem dX12_below_22 : decode cX12_below 22 = .ok (.getfield 108, 3) := by decide +kernel
theorem dX12_below_25 : decode cX12_below 25 = .ok (.bipush 6, 2) := by decide +kernel
theorem dX12_below_27 : decode cX12_below 27 = .ok (.iload_n 1, 1) := by decide +kernel
theorem dX12_below_28 : decode cX12_below 28 = .ok (.imul, 1) := by decide +kernel
theorem dX12_below_29 : decode cX12_below 29 = .ok (.iload_n 2, 1) := by decide +kernel
theorem dX12_below_30 : decode cX12_below 30 = .ok (.iadd, 1) := by decide +kernel
theorem dX12_below_31 : decode cX12_below 31 = .ok (.iaload, 1) := by decide +kernel
theorem dX12_below_32 : decode cX12_below 32 = .ok (.iload_n 3, 1) := by decide +kernel
theorem dX12_below_33 : decode cX12_below 33 = .ok (.if_icmp .ne 7, 3) := by decide +kernel
theorem dX12_below_36 : decode cX12_below 36 = .ok (.iconst 0, 1) := by decide +kernel
theorem dX12_below_37 : decode cX12_below 37 = .ok (.goto 5, 3) := by decide +kernel
theorem dX12_below_40 : decode cX12_below 40 = .ok (.ldc 224, 2) := by decide +kernel
theorem dX12_below_42 : decode cX12_below 42 = .ok (.ireturn, 1) := by decide +kernel
theorem dX12_below_43 : decode cX12_below 43 = .ok (.iconst 0, 1) := by decide +kernel
theorem dX12_below_44 : decode cX12_below 44 = .ok (.istore 4, 2) := by decide +kernel
theorem dX12_below_46 : decode cX12_below 46 = .ok (.iconst 0, 1) := by decide +kernel
theorem dX12_below_47 : decode cX12_below 47 = .ok (.istore 5, 2) := by decide +kernel
theorem dX12_below_49 : decode cX12_below 49 = .ok (.iload 5, 2) := by decide +kernel
theorem dX12_below_51 : decode cX12_below 51 = .ok (.aload_n 0, 1) := by decide +kernel
theorem dX12_below_52 : decode cX12_below 52 = .ok (.getfield 280, 3) := by decide +kernel
theorem dX12_below_55 : decode cX12_below 55 = .ok (.if_icmp .ge 95, 3) := by decide +kernel
theorem dX12_below_58 : decode cX12_below 58 = .ok (.aload_n 0, 1) := by decide +kernel
theorem dX12_below_59 : decode cX12_below 59 = .ok (.getfield 102, 3) := by decide +kernel
theorem dX12_below_62 : decode cX12_below 62 = .ok (.iload 5, 2) := by decide +kernel
theorem dX12_below_64 : decode cX12_below 64 = .ok (.iaload, 1) := by decide +kernel
theorem dX12_below_65 : decode cX12_below 65 = .ok (.iload_n 2, 1) := by decide +kernel
theorem dX12_below_66 : decode cX12_below 66 = .ok (.if_icmp .ne 78, 3) := by decide +kernel
theorem dX12_below_69 : decode cX12_below 69 = .ok (.ldc 224, 2) := by decide +kernel
theorem dX12_below_71 : decode cX12_below 71 = .ok (.istore 6, 2) := by decide +kernel
theorem dX12_below_73 : decode cX12_below 73 = .ok (.iconst 0, 1) := by decide +kernel
theorem dX12_below_74 : decode cX12_below 74 = .ok (.istore 7, 2) := by decide +kernel
theorem dX12_below_76 : decode cX12_below 76 = .ok (.iload 7, 2) := by decide +kernel
theorem dX12_below_78 : decode cX12_below 78 = .ok (.bipush 6, 2) := by decide +kernel
theorem dX12_below_80 : decode cX12_below 80 = .ok (.if_icmp .ge 57, 3) := by decide +kernel
theorem dX12_below_83 : decode cX12_below 83 = .ok (.aload_n 0, 1) := by decide +kernel
theorem dX12_below_84 : decode cX12_below 84 = .ok (.getfield 111, 3) := by decide +kernel
theorem dX12_below_87 : decode cX12_below 87 = .ok (.bipush 6, 2) := by decide +kernel
theorem dX12_below_89 : decode cX12_below 89 = .ok (.aload_n 0, 1) := by decide +kernel
theorem dX12_below_90 : decode cX12_below 90 = .ok (.getfield 105, 3) := by decide +kernel
theorem dX12_below_93 : decode cX12_below 93 = .ok (.iload 5, 2) := by decide +kernel
theorem dX12_below_95 : decode cX12_below 95 = .ok (.iaload, 1) := by decide +kernel
theorem dX12_below_96 : decode cX12_below 96 = .ok (.imul, 1) := by decide +kernel
theorem dX12_below_97 : decode cX12_below 97 = .ok (.iload 7, 2) := by decide +kernel
theorem dX12_below_99 : decode cX12_below 99 = .ok (.iadd, 1) := by decide +kernel
theorem dX12_below_100 : decode cX12_below 100 = .ok (.iaload, 1) := by decide +kernel
theorem dX12_below_101 : decode cX12_below 101 = .ok (.iload 7, 2) := by decide +kernel
theorem dX12_below_103 : decode cX12_below 103 = .ok (.iload_n 3, 1) := by decide +kernel
theorem dX12_below_104 : decode cX12_below 104 = .ok (.if_icmp .ne 7, 3) := by decide +kernel
theorem dX12_below_107 : decode cX12_below 107 = .ok (.iconst 0, 1) := by decide +kernel
theorem dX12_below_108 : decode cX12_below 108 = .ok (.goto 4, 3) := by decide +kernel
theorem dX12_below_111 : decode cX12_below 111 = .ok (.iconst 1, 1) := by decide +kernel
theorem dX12_below_112 : decode cX12_below 112 = .ok (.iadd, 1) := by decide +kernel
theorem dX12_below_113 : decode cX12_below 113 = .ok (.istore 8, 2) := by decide +kernel
theorem dX12_below_115 : decode cX12_below 115 = .ok (.iload 8, 2) := by decide +kernel
theorem dX12_below_117 : decode cX12_below 117 = .ok (.iload 6, 2) := by decide +kernel
theorem dX12_below_119 : decode cX12_below 119 = .ok (.if_icmp .ge 8, 3) := by decide +kernel
theorem dX12_below_122 : decode cX12_below 122 = .ok (.iload 8, 2) := by decide +kernel
theorem dX12_below_124 : decode cX12_below 124 = .ok (.goto 5, 3) := by decide +kernel
theorem dX12_below_127 : decode cX12_below 127 = .ok (.iload 6, 2) := by decide +kernel
theorem dX12_below_129 : decode cX12_below 129 = .ok (.istore 6, 2) := by decide +kernel
theorem dX12_below_131 : decode cX12_below 131 = .ok (.iinc 7 1, 3) := by decide +kernel
theorem dX12_below_134 : decode cX12_below 134 = .ok (.goto (-58), 3) := by decide +kernel
theorem dX12_below_137 : decode cX12_below 137 = .ok (.iload 4, 2) := by decide +kernel
theorem dX12_below_139 : decode cX12_below 139 = .ok (.iload 6, 2) := by decide +kernel
theorem dX12_below_141 : decode cX12_below 141 = .ok (.iadd, 1) := by decide +kernel
theorem dX12_below_142 : decode cX12_below 142 = .ok (.istore 4, 2) := by decide +kernel
theorem dX12_below_144 : decode cX12_below 144 = .ok (.iinc 5 1, 3) := by decide +kernel
theorem dX12_below_147 : decode cX12_below 147 = .ok (.goto (-98), 3) := by decide +kernel
theorem dX12_below_150 : decode cX12_below 150 = .ok (.iload 4, 2) := by decide +kernel
theorem dX12_below_152 : decode cX12_below 152 = .ok (.ireturn, 1) := by decide +kernel
theorem dX12_stepsOf_0 : decode cX12_stepsOf 0 = .ok (.aload_n 0, 1) := by decide +kernel
theorem dX12_stepsOf_1 : decode cX12_stepsOf 1 = .ok (.iload_n 1, 1) := by decide +kernel
theorem dX12_stepsOf_2 : decode cX12_stepsOf 2 = .ok (.invokevirtual 289, 3) := by decide +kernel
theorem dX12_stepsOf_5 : decode cX12_stepsOf 5 = .ok (.iconst 0, 1) := by decide +kernel
theorem dX12_stepsOf_6 : decode cX12_stepsOf 6 = .ok (.istore_n 2, 1) := by decide +kernel
theorem dX12_stepsOf_7 : decode cX12_stepsOf 7 = .ok (.iconst 0, 1) := by decide +kernel
theorem dX12_stepsOf_8 : decode cX12_stepsOf 8 = .ok (.istore_n 3, 1) := by decide +kernel
theorem dX12_stepsOf_9 : decode cX12_stepsOf 9 = .ok (.iload_n 3, 1) := by decide +kernel
theorem dX12_stepsOf_10 : decode cX12_stepsOf 10 = .ok (.bipush 10, 2) := by decide +kernel
theorem dX12_stepsOf_12 : decode cX12_stepsOf 12 = .ok (.if_icmp .ge 320, 3) := by decide +kernel
theorem dX12_stepsOf_15 : decode cX12_stepsOf 15 = .ok (.iconst 0, 1) := by decide +kernel
theorem dX12_stepsOf_16 : decode cX12_stepsOf 16 = .ok (.istore 4, 2) := by decide +kernel
theorem dX12_stepsOf_18 : decode cX12_stepsOf 18 = .ok (.iload 4, 2) := by decide +kernel
theorem dX12_stepsOf_20 : decode cX12_stepsOf 20 = .ok (.aload_n 0, 1) := by decide +kernel
theorem dX12_stepsOf_21 : decode cX12_stepsOf 21 = .ok (.getfield 277, 3) := by decide +kernel
theorem dX12_stepsOf_24 : decode cX12_stepsOf 24 = .ok (.if_icmp .ge 47, 3) := by decide +kernel
theorem dX12_stepsOf_27 : decode cX12_stepsOf 27 = .ok (.iconst 0, 1) := by decide +kernel
theorem dX12_stepsOf_28 : decode cX12_stepsOf 28 = .ok (.istore 5, 2) := by decide +kernel
theorem dX12_stepsOf_30 : decode cX12_stepsOf 30 = .ok (.iload 5, 2) := by decide +kernel
theorem dX12_stepsOf_32 : decode cX12_stepsOf 32 = .ok (.bipush 6, 2) := by decide +kernel
theorem dX12_stepsOf_34 : decode cX12_stepsOf 34 = .ok (.if_icmp .ge 31, 3) := by decide +kernel
theorem dX12_stepsOf_37 : decode cX12_stepsOf 37 = .ok (.aload_n 0, 1) := by decide +kernel
theorem dX12_stepsOf_38 : decode cX12_stepsOf 38 = .ok (.getfield 111, 3) := by decide +kernel
theorem dX12_stepsOf_41 : decode cX12_stepsOf 41 = .ok (.bipush 6, 2) := by decide +kernel
theorem dX12_stepsOf_43 : decode cX12_stepsOf 43 = .ok (.iload 4, 2) := by decide +kernel
theorem dX12_stepsOf_45 : decode cX12_stepsOf 45 = .ok (.imul, 1) := by decide +kernel
theorem dX12_stepsOf_46 : decode cX12_stepsOf 46 = .ok (.iload 5, 2) := by decide +kernel
theorem dX12_stepsOf_48 : decode cX12_stepsOf 48 = .ok (.iadd, 1) := by decide +kernel
theorem dX12_stepsOf_49 : decode cX12_stepsOf 49 = .ok (.aload_n 0, 1) := by decide +kernel
theorem dX12_stepsOf_50 : decode cX12_stepsOf 50 = .ok (.iload_n 3, 1) := by decide +kernel
theorem dX12_stepsOf_51 : decode cX12_stepsOf 51 = .ok (.iload 4, 2) := by decide +kernel
theorem dX12_stepsOf_53 : decode cX12_stepsOf 53 = .ok (.iload 5, 2) := by decide +kernel
theorem dX12_stepsOf_55 : decode cX12_stepsOf 55 = .ok (.invokevirtual 292, 3) := by decide +kernel
theorem dX12_stepsOf_58 : decode cX12_stepsOf 58 = .ok (.iastore, 1) := by decide +kernel
theorem dX12_stepsOf_59 : decode cX12_stepsOf 59 = .ok (.iinc 5 1, 3) := by decide +kernel
theorem dX12_stepsOf_62 : decode cX12_stepsOf 62 = .ok (.goto (-32), 3) := by decide +kernel
theorem dX12_stepsOf_65 : decode cX12_stepsOf 65 = .ok (.iinc 4 1, 3) := by decide +kernel
theorem dX12_stepsOf_68 : decode cX12_stepsOf 68 = .ok (.goto (-50), 3) := by decide +kernel
theorem dX12_stepsOf_71 : decode cX12_stepsOf 71 = .ok (.iconst 0, 1) := by decide +kernel
theorem dX12_stepsOf_72 : decode cX12_stepsOf 72 = .ok (.istore 4, 2) := by decide +kernel
theorem dX12_stepsOf_74 : decode cX12_stepsOf 74 = .ok (.iload 4, 2) := by decide +kernel
theorem dX12_stepsOf_76 : decode cX12_stepsOf 76 = .ok (.iconst 1, 1) := by decide +kernel
theorem dX12_stepsOf_77 : decode cX12_stepsOf 77 = .ok (.aload_n 0, 1) := by decide +kernel
theorem dX12_stepsOf_78 : decode cX12_stepsOf 78 = .ok (.getfield 283, 3) := by decide +kernel
theorem dX12_stepsOf_81 : decode cX12_stepsOf 81 = .ok (.bipush 6, 2) := by decide +kernel
theorem dX12_stepsOf_83 : decode cX12_stepsOf 83 = .ok (.isub, 1) := by decide +kernel
theorem dX12_stepsOf_84 : decode cX12_stepsOf 84 = .ok (.ishl, 1) := by decide +kernel
theorem dX12_stepsOf_85 : decode cX12_stepsOf 85 = .ok (.iconst 1, 1) := by decide +kernel
theorem dX12_stepsOf_86 : decode cX12_stepsOf 86 = .ok (.isub, 1) := by decide +kernel
theorem dX12_stepsOf_87 : decode cX12_stepsOf 87 = .ok (.if_icmp .eq 182, 3) := by decide +kernel
theorem dX12_stepsOf_90 : decode cX12_stepsOf 90 = .ok (.aload_n 0, 1) := by decide +kernel
theorem dX12_stepsOf_91 : decode cX12_stepsOf 91 = .ok (.getfield 283, 3) := by decide +kernel
theorem dX12_stepsOf_94 : decode cX12_stepsOf 94 = .ok (.iconst 1, 1) := by decide +kernel
theorem dX12_stepsOf_95 : decode cX12_stepsOf 95 = .ok (.isub, 1) := by decide +kernel
theorem dX12_stepsOf_96 : decode cX12_stepsOf 96 = .ok (.istore 5, 2) := by decide +kernel
theorem dX12_stepsOf_98 : decode cX12_stepsOf 98 = .ok (.iload 5, 2) := by decide +kernel
theorem dX12_stepsOf_100 : decode cX12_stepsOf 100 = .ok (.bipush 6, 2) := by decide +kernel
theorem dX12_stepsOf_102 : decode cX12_stepsOf 102 = .ok (.if_icmp .lt 164, 3) := by decide +kernel
theorem dX12_stepsOf_105 : decode cX12_stepsOf 105 = .ok (.iload 4, 2) := by decide +kernel
theorem dX12_stepsOf_107 : decode cX12_stepsOf 107 = .ok (.iload 5, 2) := by decide +kernel
theorem dX12_stepsOf_109 : decode cX12_stepsOf 109 = .ok (.bipush 6, 2) := by decide +kernel
theorem dX12_stepsOf_111 : decode cX12_stepsOf 111 = .ok (.isub, 1) := by decide +kernel
theorem dX12_stepsOf_112 : decode cX12_stepsOf 112 = .ok (.ishr, 1) := by decide +kernel
theorem dX12_stepsOf_113 : decode cX12_stepsOf 113 = .ok (.iconst 1, 1) := by decide +kernel
theorem dX12_stepsOf_114 : decode cX12_stepsOf 114 = .ok (.iand, 1) := by decide +kernel
theorem dX12_stepsOf_115 : decode cX12_stepsOf 115 = .ok (.ifCond .ne 7, 3) := by decide +kernel
theorem dX12_stepsOf_118 : decode cX12_stepsOf 118 = .ok (.iconst 1, 1) := by decide +kernel
theorem dX12_stepsOf_119 : decode cX12_stepsOf 119 = .ok (.goto 4, 3) := by decide +kernel
theorem dX12_stepsOf_122 : decode cX12_stepsOf 122 = .ok (.iconst 0, 1) := by decide +kernel
theorem dX12_stepsOf_123 : decode cX12_stepsOf 123 = .ok (.istore 6, 2) := by decide +kernel
theorem dX12_stepsOf_125 : decode cX12_stepsOf 125 = .ok (.iconst 0, 1) := by decide +kernel
theorem dX12_stepsOf_126 : decode cX12_stepsOf 126 = .ok (.istore 7, 2) := by decide +kernel
theorem dX12_stepsOf_128 : decode cX12_stepsOf 128 = .ok (.iload 7, 2) := by decide +kernel
theorem dX12_stepsOf_130 : decode cX12_stepsOf 130 = .ok (.aload_n 0, 1) := by decide +kernel
theorem dX12_stepsOf_131 : decode cX12_stepsOf 131 = .ok (.getfield 280, 3) := by decide +kernel
theorem dX12_stepsOf_134 : decode cX12_stepsOf 134 = .ok (.if_icmp .ge 62, 3) := by decide +kernel
theorem dX12_stepsOf_137 : decode cX12_stepsOf 137 = .ok (.iload 6, 2) := by decide +kernel
theorem dX12_stepsOf_139 : decode cX12_stepsOf 139 = .ok (.ifCond .eq 48, 3) := by decide +kernel
theorem dX12_stepsOf_142 : decode cX12_stepsOf 142 = .ok (.aload_n 0, 1) := by decide +kernel
theorem dX12_stepsOf_143 : decode cX12_stepsOf 143 = .ok (.getfield 102, 3) := by decide +kernel
theorem dX12_stepsOf_146 : decode cX12_stepsOf 146 = .ok (.iload 7, 2) := by decide +kernel
theorem dX12_stepsOf_148 : decode cX12_stepsOf 148 = .ok (.iaload, 1) := by decide +kernel
theorem dX12_stepsOf_149 : decode cX12_stepsOf 149 = .ok (.iload 5, 2) := by decide +kernel
theorem dX12_stepsOf_151 : decode cX12_stepsOf 151 = .ok (.if_icmp .ne 32, 3) := by decide +kernel
theorem dX12_stepsOf_154 : decode cX12_stepsOf 154 = .ok (.aload_n 0, 1) := by decide +kernel
theorem dX12_stepsOf_155 : decode cX12_stepsOf 155 = .ok (.getfield 105, 3) := by decide +kernel
theorem dX12_stepsOf_158 : decode cX12_stepsOf 158 = .ok (.iload 7, 2) := by decide +kernel
theorem dX12_stepsOf_160 : decode cX12_stepsOf 160 = .ok (.iaload, 1) := by decide +kernel
theorem dX12_stepsOf_161 : decode cX12_stepsOf 161 = .ok (.iconst 5, 1) := by decide +kernel
theorem dX12_stepsOf_162 : decode cX12_stepsOf 162 = .ok (.if_icmp .le 21, 3) := by decide +kernel
theorem dX12_stepsOf_165 : decode cX12_stepsOf 165 = .ok (.iload 4, 2) := by decide +kernel
theorem dX12_stepsOf_167 : decode cX12_stepsOf 167 = .ok (.aload_n 0, 1) := by decide +kernel
theorem dX12_stepsOf_168 : decode cX12_stepsOf 168 = .ok (.getfield 105, 3) := by decide +kernel
theorem dX12_stepsOf_171 : decode cX12_stepsOf 171 = .ok (.iload 7, 2) := by decide +kernel
theorem dX12_stepsOf_173 : decode cX12_stepsOf 173 = .ok (.iaload, 1) := by decide +kernel
theorem dX12_stepsOf_174 : decode cX12_stepsOf 174 = .ok (.bipush 6, 2) := by decide +kernel
theorem dX12_stepsOf_176 : decode cX12_stepsOf 176 = .ok (.isub, 1) := by decide +kernel
theorem dX12_stepsOf_177 : decode cX12_stepsOf 177 = .ok (.ishr, 1) := by decide +kernel
theorem dX12_stepsOf_178 : decode cX12_stepsOf 178 = .ok (.iconst 1, 1) := by decide +kernel
theorem dX12_stepsOf_179 : decode cX12_stepsOf 179 = .ok (.iand, 1) := by decide +kernel
theorem dX12_stepsOf_180 : decode cX12_stepsOf 180 = .ok (.ifCond .eq 7, 3) := by decide +kernel
theorem dX12_stepsOf_183 : decode cX12_stepsOf 183 = .ok (.iconst 1, 1) := by decide +kernel
theorem dX12_stepsOf_184 : decode cX12_stepsOf 184 = .ok (.goto 4, 3) := by decide +kernel
theorem dX12_stepsOf_187 : decode cX12_stepsOf 187 = .ok (.iconst 0, 1) := by decide +kernel
theorem dX12_stepsOf_188 : decode cX12_stepsOf 188 = .ok (.istore 6, 2) := by decide +kernel
theorem dX12_stepsOf_190 : decode cX12_stepsOf 190 = .ok (.iinc 7 1, 3) := by decide +kernel
theorem dX12_stepsOf_193 : decode cX12_stepsOf 193 = .ok (.goto (-65), 3) := by decide +kernel
theorem dX12_stepsOf_196 : decode cX12_stepsOf 196 = .ok (.iconst 0, 1) := by decide +kernel
theorem dX12_stepsOf_197 : decode cX12_stepsOf 197 = .ok (.istore 7, 2) := by decide +kernel
theorem dX12_stepsOf_199 : decode cX12_stepsOf 199 = .ok (.iload 7, 2) := by decide +kernel
theorem dX12_stepsOf_201 : decode cX12_stepsOf 201 = .ok (.bipush 6, 2) := by decide +kernel
theorem dX12_stepsOf_203 : decode cX12_stepsOf 203 = .ok (.if_icmp .ge 36, 3) := by decide +kernel
theorem dX12_stepsOf_206 : decode cX12_stepsOf 206 = .ok (.iload 6, 2) := by decide +kernel
theorem dX12_stepsOf_208 : decode cX12_stepsOf 208 = .ok (.ifCond .eq 31, 3) := by decide +kernel
theorem dX12_stepsOf_211 : decode cX12_stepsOf 211 = .ok (.aload_n 0, 1) := by decide +kernel
theorem dX12_stepsOf_212 : decode cX12_stepsOf 212 = .ok (.getfield 111, 3) := by decide +kernel
theorem dX12_stepsOf_215 : decode cX12_stepsOf 215 = .ok (.bipush 6, 2) := by decide +kernel
theorem dX12_stepsOf_217 : decode cX12_stepsOf 217 = .ok (.iload 5, 2) := by decide +kernel
theorem dX12_stepsOf_219 : decode cX12_stepsOf 219 = .ok (.imul, 1) := by decide +kernel
theorem dX12_stepsOf_220 : decode cX12_stepsOf 220 = .ok (.iload 7, 2) := by decide +kernel
theorem dX12_stepsOf_222 : decode cX12_stepsOf 222 = .ok (.iadd, 1) := by decide +kernel
theorem dX12_stepsOf_223 : decode cX12_stepsOf 223 = .ok (.aload_n 0, 1) := by decide +kernel
theorem dX12_stepsOf_224 : decode cX12_stepsOf 224 = .ok (.iload_n 3, 1) := by decide +kernel
theorem dX12_stepsOf_225 : decode cX12_stepsOf 225 = .ok (.iload 5, 2) := by decide +kernel
theorem dX12_stepsOf_227 : decode cX12_stepsOf 227 = .ok (.iload 7, 2) := by decide +kernel
theorem dX12_stepsOf_229 : decode cX12_stepsOf 229 = .ok (.invokevirtual 292, 3) := by decide +kernel
theorem dX12_stepsOf_232 : decode cX12_stepsOf 232 = .ok (.iastore, 1) := by decide +kernel
theorem dX12_stepsOf_233 : decode cX12_stepsOf 233 = .ok (.iinc 7 1, 3) := by decide +kernel
theorem dX12_stepsOf_236 : decode cX12_stepsOf 236 = .ok (.goto (-37), 3) := by decide +kernel
theorem dX12_stepsOf_239 : decode cX12_stepsOf 239 = .ok (.iload 4, 2) := by decide +kernel
theorem dX12_stepsOf_241 : decode cX12_stepsOf 241 = .ok (.iload 6, 2) := by decide +kernel
theorem dX12_stepsOf_243 : decode cX12_stepsOf 243 = .ok (.ifCond .eq 13, 3) := by decide +kernel
theorem dX12_stepsOf_246 : decode cX12_stepsOf 246 = .ok (.iconst 1, 1) := by decide +kernel
theorem dX12_stepsOf_247 : decode cX12_stepsOf 247 = .ok (.iload 5, 2) := by decide +kernel
theorem dX12_stepsOf_249 : decode cX12_stepsOf 249 = .ok (.bipush 6, 2) := by decide +kernel
theorem dX12_stepsOf_251 : decode cX12_stepsOf 251 = .ok (.isub, 1) := by decide +kernel
theorem dX12_stepsOf_252 : decode cX12_stepsOf 252 = .ok (.ishl, 1) := by decide +kernel
theorem dX12_stepsOf_253 : decode cX12_stepsOf 253 = .ok (.goto 4, 3) := by decide +kernel
theorem dX12_stepsOf_256 : decode cX12_stepsOf 256 = .ok (.iconst 0, 1) := by decide +kernel
theorem dX12_stepsOf_257 : decode cX12_stepsOf 257 = .ok (.ior, 1) := by decide +kernel
theorem dX12_stepsOf_258 : decode cX12_stepsOf 258 = .ok (.istore 4, 2) := by decide +kernel
theorem dX12_stepsOf_260 : decode cX12_stepsOf 260 = .ok (.iinc 5 (-1), 3) := by decide +kernel
theorem dX12_stepsOf_263 : decode cX12_stepsOf 263 = .ok (.goto (-165), 3) := by decide +kernel
theorem dX12_stepsOf_266 : decode cX12_stepsOf 266 = .ok (.goto (-192), 3) := by decide +kernel
theorem dX12_stepsOf_269 : decode cX12_stepsOf 269 = .ok (.ldc 224, 2) := by decide +kernel
theorem dX12_stepsOf_271 : decode cX12_stepsOf 271 = .ok (.istore 5, 2) := by decide +kernel
theorem dX12_stepsOf_273 : decode cX12_stepsOf 273 = .ok (.iconst 0, 1) := by decide +kernel
theorem dX12_stepsOf_274 : decode cX12_stepsOf 274 = .ok (.istore 6, 2) := by decide +kernel
theorem dX12_stepsOf_276 : decode cX12_stepsOf 276 = .ok (.iload 6, 2) := by decide +kernel
theorem dX12_stepsOf_278 : decode cX12_stepsOf 278 = .ok (.bipush 6, 2) := by decide +kernel
theorem dX12_stepsOf_280 : decode cX12_stepsOf 280 = .ok (.if_icmp .ge 41, 3) := by decide +kernel
theorem dX12_stepsOf_283 : decode cX12_stepsOf 283 = .ok (.aload_n 0, 1) := by decide +kernel
theorem dX12_stepsOf_284 : decode cX12_stepsOf 284 = .ok (.getfield 111, 3) := by decide +kernel
theorem dX12_stepsOf_287 : decode cX12_stepsOf 287 = .ok (.bipush 36, 2) := by decide +kernel
theorem dX12_stepsOf_289 : decode cX12_stepsOf 289 = .ok (.iload 6, 2) := by decide +kernel
theorem dX12_stepsOf_291 : decode cX12_stepsOf 291 = .ok (.iadd, 1) := by decide +kernel
theorem dX12_stepsOf_292 : decode cX12_stepsOf 292 = .ok (.iaload, 1) := by decide +kernel
theorem dX12_stepsOf_293 : decode cX12_stepsOf 293 = .ok (.iload 5, 2) := by decide +kernel
theorem dX12_stepsOf_295 : decode cX12_stepsOf 295 = .ok (.if_icmp .ge 16, 3) := by decide +kernel
theorem dX12_stepsOf_298 : decode cX12_stepsOf 298 = .ok (.aload_n 0, 1) := by decide +kernel
theorem dX12_stepsOf_299 : decode cX12_stepsOf 299 = .ok (.getfield 111, 3) := by decide +kernel
theorem dX12_stepsOf_302 : decode cX12_stepsOf 302 = .ok (.bipush 36, 2) := by decide +kernel
theorem dX12_stepsOf_304 : decode cX12_stepsOf 304 = .ok (.iload 6, 2) := by decide +kernel
theorem dX12_stepsOf_306 : decode cX12_stepsOf 306 = .ok (.iadd, 1) := by decide +kernel
theorem dX12_stepsOf_307 : decode cX12_stepsOf 307 = .ok (.iaload, 1) := by decide +kernel
theorem dX12_stepsOf_308 : decode cX12_stepsOf 308 = .ok (.goto 5, 3) := by decide +kernel
theorem dX12_stepsOf_311 : decode cX12_stepsOf 311 = .ok (.iload 5, 2) := by decide +kernel
theorem dX12_stepsOf_313 : decode cX12_stepsOf 313 = .ok (.istore 5, 2) := by decide +kernel
theorem dX12_stepsOf_315 : decode cX12_stepsOf 315 = .ok (.iinc 6 1, 3) := by decide +kernel
theorem dX12_stepsOf_318 : decode cX12_stepsOf 318 = .ok (.goto (-42), 3) := by decide +kernel
theorem dX12_stepsOf_321 : decode cX12_stepsOf 321 = .ok (.iload_n 2, 1) := by decide +kernel
theorem dX12_stepsOf_322 : decode cX12_stepsOf 322 = .ok (.iload 5, 2) := by decide +kernel
theorem dX12_stepsOf_324 : decode cX12_stepsOf 324 = .ok (.iadd, 1) := by decide +kernel
theorem dX12_stepsOf_325 : decode cX12_stepsOf 325 = .ok (.istore_n 2, 1) := by decide +kernel
theorem dX12_stepsOf_326 : decode cX12_stepsOf 326 = .ok (.iinc 3 1, 3) := by decide +kernel
theorem dX12_stepsOf_329 : decode cX12_stepsOf 329 = .ok (.goto (-320), 3) := by decide +kernel
theorem dX12_stepsOf_332 : decode cX12_stepsOf 332 = .ok (.iload_n 2, 1) := by decide +kernel
theorem dX12_stepsOf_333 : decode cX12_stepsOf 333 = .ok (.ireturn, 1) := by decide +kernel
theorem dX12_steps_0 : decode cX12_steps 0 = .ok (.aload_n 0, 1) := by decide +kernel
theorem dX12_steps_1 : decode cX12_steps 1 = .ok (.iload_n 1, 1) := by decide +kernel
theorem dX12_steps_2 : decode cX12_steps 2 = .ok (.invokevirtual 296, 3) := by decide +kernel
theorem dX12_steps_5 : decode cX12_steps 5 = .ok (.istore_n 3, 1) := by decide +kernel
theorem dX12_steps_6 : decode cX12_steps 6 = .ok (.iload_n 3, 1) := by decide +kernel
theorem dX12_steps_7 : decode cX12_steps 7 = .ok (.ifCond .eq 5, 3) := by decide +kernel
theorem dX12_steps_10 : decode cX12_steps 10 = .ok (.iload_n 3, 1) := by decide +kernel
theorem dX12_steps_11 : decode cX12_steps 11 = .ok (.ireturn, 1) := by decide +kernel
theorem dX12_steps_12 : decode cX12_steps 12 = .ok (.iload_n 2, 1) := by decide +kernel
theorem dX12_steps_13 : decode cX12_steps 13 = .ok (.iconst 0, 1) := by decide +kernel
theorem dX12_steps_14 : decode cX12_steps 14 = .ok (.aload_n 0, 1) := by decide +kernel
theorem dX12_steps_15 : decode cX12_steps 15 = .ok (.invokevirtual 286, 3) := by decide +kernel
theorem dX12_steps_18 : decode cX12_steps 18 = .ok (.iconst 1, 1) := by decide +kernel
theorem dX12_steps_19 : decode cX12_steps 19 = .ok (.isub, 1) := by decide +kernel
theorem dX12_steps_20 : decode cX12_steps 20 = .ok (.invokestatic 123, 3) := by decide +kernel
theorem dX12_steps_23 : decode cX12_steps 23 = .ok (.ifCond .eq 11, 3) := by decide +kernel
theorem dX12_steps_26 : decode cX12_steps 26 = .ok (.aload_n 0, 1) := by decide +kernel
theorem dX12_steps_27 : decode cX12_steps 27 = .ok (.iload_n 2, 1) := by decide +kernel
theorem dX12_steps_28 : decode cX12_steps 28 = .ok (.invokevirtual 299, 3) := by decide +kernel
theorem dX12_steps_31 : decode cX12_steps 31 = .ok (.goto 5, 3) := by decide +kernel
theorem dX12_steps_34 : decode cX12_steps 34 = .ok (.bipush (-2), 2) := by decide +kernel
theorem dX12_steps_36 : decode cX12_steps 36 = .ok (.ireturn, 1) := by decide +kernel
theorem dX12_tree_0 : decode cX12_tree 0 = .ok (.aload_n 0, 1) := by decide +kernel
theorem dX12_tree_1 : decode cX12_tree 1 = .ok (.iload_n 1, 1) := by decide +kernel
theorem dX12_tree_2 : decode cX12_tree 2 = .ok (.invokevirtual 296, 3) := by decide +kernel
theorem dX12_tree_5 : decode cX12_tree 5 = .ok (.istore_n 3, 1) := by decide +kernel
theorem dX12_tree_6 : decode cX12_tree 6 = .ok (.iload_n 3, 1) := by decide +kernel
theorem dX12_tree_7 : decode cX12_tree 7 = .ok (.ifCond .eq 5, 3) := by decide +kernel
theorem dX12_tree_10 : decode cX12_tree 10 = .ok (.iload_n 3, 1) := by decide +kernel
theorem dX12_tree_11 : decode cX12_tree 11 = .ok (.ireturn, 1) := by decide +kernel
theorem dX12_tree_12 : decode cX12_tree 12 = .ok (.iload_n 2, 1) := by decide +kernel
theorem dX12_tree_13 : decode cX12_tree 13 = .ok (.iconst 0, 1) := by decide +kernel
theorem dX12_tree_14 : decode cX12_tree 14 = .ok (.iconst 2, 1) := by decide +kernel
theorem dX12_tree_15 : decode cX12_tree 15 = .ok (.invokestatic 123, 3) := by decide +kernel
theorem dX12_tree_18 : decode cX12_tree 18 = .ok (.ifCond .ne 5, 3) := by decide +kernel
theorem dX12_tree_21 : decode cX12_tree 21 = .ok (.iconst (-1), 1) := by decide +kernel
theorem dX12_tree_22 : decode cX12_tree 22 = .ok (.ireturn, 1) := by decide +kernel
theorem dX12_tree_23 : decode cX12_tree 23 = .ok (.iconst (-1), 1) := by decide +kernel
theorem dX12_tree_24 : decode cX12_tree 24 = .ok (.istore 4, 2) := by decide +kernel
theorem dX12_tree_26 : decode cX12_tree 26 = .ok (.iconst 0, 1) := by decide +kernel
theorem dX12_tree_27 : decode cX12_tree 27 = .ok (.istore 5, 2) := by decide +kernel
theorem dX12_tree_29 : decode cX12_tree 29 = .ok (.iconst 0, 1) := by decide +kernel
theorem dX12_tree_30 : decode cX12_tree 30 = .ok (.istore 6, 2) := by decide +kernel
theorem dX12_tree_32 : decode cX12_tree 32 = .ok (.iconst 0, 1) := by decide +kernel
theorem dX12_tree_33 : decode cX12_tree 33 = .ok (.istore 7, 2) := by decide +kernel
theorem dX12_tree_35 : decode cX12_tree 35 = .ok (.iload 7, 2) := by decide +kernel
theorem dX12_tree_37 : decode cX12_tree 37 = .ok (.aload_n 0, 1) := by decide +kernel
theorem dX12_tree_38 : decode cX12_tree 38 = .ok (.invokevirtual 286, 3) := by decide +kernel
theorem dX12_tree_41 : decode cX12_tree 41 = .ok (.if_icmp .ge 92, 3) := by decide +kernel
theorem dX12_tree_44 : decode cX12_tree 44 = .ok (.aload_n 0, 1) := by decide +kernel
theorem dX12_tree_45 : decode cX12_tree 45 = .ok (.iload 7, 2) := by decide +kernel
theorem dX12_tree_47 : decode cX12_tree 47 = .ok (.invokevirtual 299, 3) := by decide +kernel
theorem dX12_tree_50 : decode cX12_tree 50 = .ok (.istore 8, 2) := by decide +kernel
theorem dX12_tree_52 : decode cX12_tree 52 = .ok (.iload 4, 2) := by decide +kernel
theorem dX12_tree_54 : decode cX12_tree 54 = .ok (.iconst (-1), 1) := by decide +kernel
theorem dX12_tree_55 : decode cX12_tree 55 = .ok (.if_icmp .eq 10, 3) := by decide +kernel
theorem dX12_tree_58 : decode cX12_tree 58 = .ok (.iload 8, 2) := by decide +kernel
theorem dX12_tree_60 : decode cX12_tree 60 = .ok (.iload 5, 2) := by decide +kernel
theorem dX12_tree_62 : decode cX12_tree 62 = .ok (.if_icmp .ge 7, 3) := by decide +kernel
theorem dX12_tree_65 : decode cX12_tree 65 = .ok (.iconst 1, 1) := by decide +kernel
theorem dX12_tree_66 : decode cX12_tree 66 = .ok (.goto 4, 3) := by decide +kernel
theorem dX12_tree_69 : decode cX12_tree 69 = .ok (.iconst 0, 1) := by decide +kernel
theorem dX12_tree_70 : decode cX12_tree 70 = .ok (.istore 9, 2) := by decide +kernel
theorem dX12_tree_72 : decode cX12_tree 72 = .ok (.iload 9, 2) := by decide +kernel
theorem dX12_tree_74 : decode cX12_tree 74 = .ok (.ifCond .eq 7, 3) := by decide +kernel
theorem dX12_tree_77 : decode cX12_tree 77 = .ok (.iconst 1, 1) := by decide +kernel
theorem dX12_tree_78 : decode cX12_tree 78 = .ok (.goto 19, 3) := by decide +kernel
theorem dX12_tree_81 : decode cX12_tree 81 = .ok (.iload 8, 2) := by decide +kernel
theorem dX12_tree_83 : decode cX12_tree 83 = .ok (.iload 5, 2) := by decide +kernel
theorem dX12_tree_85 : decode cX12_tree 85 = .ok (.if_icmp .ne 10, 3) := by decide +kernel
theorem dX12_tree_88 : decode cX12_tree 88 = .ok (.iload 6, 2) := by decide +kernel
theorem dX12_tree_90 : decode cX12_tree 90 = .ok (.iconst 1, 1) := by decide +kernel
theorem dX12_tree_91 : decode cX12_tree 91 = .ok (.iadd, 1) := by decide +kernel
theorem dX12_tree_92 : decode cX12_tree 92 = .ok (.goto 5, 3) := by decide +kernel
theorem dX12_tree_95 : decode cX12_tree 95 = .ok (.iload 6, 2) := by decide +kernel
theorem dX12_tree_97 : decode cX12_tree 97 = .ok (.istore 6, 2) := by decide +kernel
theorem dX12_tree_99 : decode cX12_tree 99 = .ok (.iload 9, 2) := by decide +kernel
theorem dX12_tree_101 : decode cX12_tree 101 = .ok (.ifCond .eq 8, 3) := by decide +kernel
theorem dX12_tree_104 : decode cX12_tree 104 = .ok (.iload 7, 2) := by decide +kernel
theorem dX12_tree_106 : decode cX12_tree 106 = .ok (.goto 5, 3) := by decide +kernel
theorem dX12_tree_109 : decode cX12_tree 109 = .ok (.iload 4, 2) := by decide +kernel
theorem dX12_tree_111 : decode cX12_tree 111 = .ok (.istore 4, 2) := by decide +kernel
theorem dX12_tree_113 : decode cX12_tree 113 = .ok (.iload 9, 2) := by decide +kernel
theorem dX12_tree_115 : decode cX12_tree 115 = .ok (.ifCond .eq 8, 3) := by decide +kernel
theorem dX12_tree_118 : decode cX12_tree 118 = .ok (.iload 8, 2) := by decide +kernel
theorem dX12_tree_120 : decode cX12_tree 120 = .ok (.goto 5, 3) := by decide +kernel
theorem dX12_tree_123 : decode cX12_tree 123 = .ok (.iload 5, 2) := by decide +kernel
theorem dX12_tree_125 : decode cX12_tree 125 = .ok (.istore 5, 2) := by decide +kernel
theorem dX12_tree_127 : decode cX12_tree 127 = .ok (.iinc 7 1, 3) := by decide +kernel
theorem dX12_tree_130 : decode cX12_tree 130 = .ok (.goto (-95), 3) := by decide +kernel
theorem dX12_tree_133 : decode cX12_tree 133 = .ok (.iload_n 2, 1) := by decide +kernel
theorem dX12_tree_134 : decode cX12_tree 134 = .ok (.ifCond .ne 8, 3) := by decide +kernel
theorem dX12_tree_137 : decode cX12_tree 137 = .ok (.iload 4, 2) := by decide +kernel
theorem dX12_tree_139 : decode cX12_tree 139 = .ok (.goto 15, 3) := by decide +kernel
theorem dX12_tree_142 : decode cX12_tree 142 = .ok (.iload_n 2, 1) := by decide +kernel
theorem dX12_tree_143 : decode cX12_tree 143 = .ok (.iconst 1, 1) := by decide +kernel
theorem dX12_tree_144 : decode cX12_tree 144 = .ok (.if_icmp .ne 8, 3) := by decide +kernel
theorem dX12_tree_147 : decode cX12_tree 147 = .ok (.iload 5, 2) := by decide +kernel
theorem dX12_tree_149 : decode cX12_tree 149 = .ok (.goto 5, 3) := by decide +kernel
theorem dX12_tree_152 : decode cX12_tree 152 = .ok (.iload 6, 2) := by decide +kernel
theorem dX12_tree_154 : decode cX12_tree 154 = .ok (.ireturn, 1) := by decide +kernel
theorem dX12_claim_0 : decode cX12_claim 0 = .ok (.aload_n 0, 1) := by decide +kernel
theorem dX12_claim_1 : decode cX12_claim 1 = .ok (.iload_n 2, 1) := by decide +kernel
theorem dX12_claim_2 : decode cX12_claim 2 = .ok (.iload_n 1, 1) := by decide +kernel
theorem dX12_claim_3 : decode cX12_claim 3 = .ok (.invokevirtual 228, 3) := by decide +kernel
theorem dX12_claim_6 : decode cX12_claim 6 = .ok (.ifCond .eq 12, 3) := by decide +kernel
theorem dX12_claim_9 : decode cX12_claim 9 = .ok (.aload_n 0, 1) := by decide +kernel
theorem dX12_claim_10 : decode cX12_claim 10 = .ok (.iload_n 3, 1) := by decide +kernel
theorem dX12_claim_11 : decode cX12_claim 11 = .ok (.iload_n 1, 1) := by decide +kernel
theorem dX12_claim_12 : decode cX12_claim 12 = .ok (.invokevirtual 228, 3) := by decide +kernel
theorem dX12_claim_15 : decode cX12_claim 15 = .ok (.ifCond .ne 5, 3) := by decide +kernel
theorem dX12_claim_18 : decode cX12_claim 18 = .ok (.iconst (-1), 1) := by decide +kernel
theorem dX12_claim_19 : decode cX12_claim 19 = .ok (.ireturn, 1) := by decide +kernel
theorem dX12_claim_20 : decode cX12_claim 20 = .ok (.iload_n 2, 1) := by decide +kernel
theorem dX12_claim_21 : decode cX12_claim 21 = .ok (.iload_n 3, 1) := by decide +kernel
theorem dX12_claim_22 : decode cX12_claim 22 = .ok (.if_icmp .eq 14, 3) := by decide +kernel
theorem dX12_claim_25 : decode cX12_claim 25 = .ok (.iload 5, 2) := by decide +kernel
theorem dX12_claim_27 : decode cX12_claim 27 = .ok (.iconst 0, 1) := by decide +kernel
theorem dX12_claim_28 : decode cX12_claim 28 = .ok (.bipush 10, 2) := by decide +kernel
theorem dX12_claim_30 : decode cX12_claim 30 = .ok (.invokestatic 123, 3) := by decide +kernel
theorem dX12_claim_33 : decode cX12_claim 33 = .ok (.ifCond .ne 6, 3) := by decide +kernel
theorem dX12_claim_36 : decode cX12_claim 36 = .ok (.bipush (-2), 2) := by decide +kernel
theorem dX12_claim_38 : decode cX12_claim 38 = .ok (.ireturn, 1) := by decide +kernel
theorem dX12_claim_39 : decode cX12_claim 39 = .ok (.aload_n 0, 1) := by decide +kernel
theorem dX12_claim_40 : decode cX12_claim 40 = .ok (.getfield 218, 3) := by decide +kernel
theorem dX12_claim_43 : decode cX12_claim 43 = .ok (.ifCond .eq 6, 3) := by decide +kernel
theorem dX12_claim_46 : decode cX12_claim 46 = .ok (.bipush (-3), 2) := by decide +kernel
theorem dX12_claim_48 : decode cX12_claim 48 = .ok (.ireturn, 1) := by decide +kernel
theorem dX12_claim_49 : decode cX12_claim 49 = .ok (.aload_n 0, 1) := by decide +kernel
theorem dX12_claim_50 : decode cX12_claim 50 = .ok (.getfield 221, 3) := by decide +kernel
theorem dX12_claim_53 : decode cX12_claim 53 = .ok (.bipush 60, 2) := by decide +kernel
theorem dX12_claim_55 : decode cX12_claim 55 = .ok (.if_icmp .ne 6, 3) := by decide +kernel
theorem dX12_claim_58 : decode cX12_claim 58 = .ok (.bipush (-4), 2) := by decide +kernel
theorem dX12_claim_60 : decode cX12_claim 60 = .ok (.ireturn, 1) := by decide +kernel
theorem dX12_claim_61 : decode cX12_claim 61 = .ok (.aload_n 0, 1) := by decide +kernel
theorem dX12_claim_62 : decode cX12_claim 62 = .ok (.getfield 69, 3) := by decide +kernel
theorem dX12_claim_65 : decode cX12_claim 65 = .ok (.aload_n 0, 1) := by decide +kernel
theorem dX12_claim_66 : decode cX12_claim 66 = .ok (.getfield 221, 3) := by decide +kernel
theorem dX12_claim_69 : decode cX12_claim 69 = .ok (.iload 5, 2) := by decide +kernel
theorem dX12_claim_71 : decode cX12_claim 71 = .ok (.iastore, 1) := by decide +kernel
theorem dX12_claim_72 : decode cX12_claim 72 = .ok (.aload_n 0, 1) := by decide +kernel
theorem dX12_claim_73 : decode cX12_claim 73 = .ok (.getfield 72, 3) := by decide +kernel
theorem dX12_claim_76 : decode cX12_claim 76 = .ok (.aload_n 0, 1) := by decide +kernel
theorem dX12_claim_77 : decode cX12_claim 77 = .ok (.getfield 221, 3) := by decide +kernel
theorem dX12_claim_80 : decode cX12_claim 80 = .ok (.iload 4, 2) := by decide +kernel
theorem dX12_claim_82 : decode cX12_claim 82 = .ok (.aload_n 0, 1) := by decide +kernel
theorem dX12_claim_83 : decode cX12_claim 83 = .ok (.getfield 23, 3) := by decide +kernel
theorem dX12_claim_86 : decode cX12_claim 86 = .ok (.bipush 10, 2) := by decide +kernel
theorem dX12_claim_88 : decode cX12_claim 88 = .ok (.iload_n 2, 1) := by decide +kernel
theorem dX12_claim_89 : decode cX12_claim 89 = .ok (.imul, 1) := by decide +kernel
theorem dX12_claim_90 : decode cX12_claim 90 = .ok (.iload_n 1, 1) := by decide +kernel
theorem dX12_claim_91 : decode cX12_claim 91 = .ok (.iadd, 1) := by decide +kernel
theorem dX12_claim_92 : decode cX12_claim 92 = .ok (.iaload, 1) := by decide +kernel
theorem dX12_claim_93 : decode cX12_claim 93 = .ok (.aload_n 0, 1) := by decide +kernel
theorem dX12_claim_94 : decode cX12_claim 94 = .ok (.getfield 23, 3) := by decide +kernel
theorem dX12_claim_97 : decode cX12_claim 97 = .ok (.bipush 10, 2) := by decide +kernel
theorem dX12_claim_99 : decode cX12_claim 99 = .ok (.iload_n 3, 1) := by decide +kernel
theorem dX12_claim_100 : decode cX12_claim 100 = .ok (.imul, 1) := by decide +kernel
theorem dX12_claim_101 : decode cX12_claim 101 = .ok (.iload_n 1, 1) := by decide +kernel
theorem dX12_claim_102 : decode cX12_claim 102 = .ok (.iadd, 1) := by decide +kernel
theorem dX12_claim_103 : decode cX12_claim 103 = .ok (.iaload, 1) := by decide +kernel
theorem dX12_claim_104 : decode cX12_claim 104 = .ok (.if_icmp .ne 7, 3) := by decide +kernel
theorem dX12_claim_107 : decode cX12_claim 107 = .ok (.iconst 1, 1) := by decide +kernel
theorem dX12_claim_108 : decode cX12_claim 108 = .ok (.goto 4, 3) := by decide +kernel
theorem dX12_claim_111 : decode cX12_claim 111 = .ok (.iconst 0, 1) := by decide +kernel
theorem dX12_claim_112 : decode cX12_claim 112 = .ok (.if_icmp .ne 7, 3) := by decide +kernel
theorem dX12_claim_115 : decode cX12_claim 115 = .ok (.iconst 1, 1) := by decide +kernel
theorem dX12_claim_116 : decode cX12_claim 116 = .ok (.goto 4, 3) := by decide +kernel
theorem dX12_claim_119 : decode cX12_claim 119 = .ok (.iconst 0, 1) := by decide +kernel
theorem dX12_claim_120 : decode cX12_claim 120 = .ok (.bastore, 1) := by decide +kernel
theorem dX12_claim_121 : decode cX12_claim 121 = .ok (.aload_n 0, 1) := by decide +kernel
theorem dX12_claim_122 : decode cX12_claim 122 = .ok (.dup, 1) := by decide +kernel
theorem dX12_claim_123 : decode cX12_claim 123 = .ok (.getfield 221, 3) := by decide +kernel
theorem dX12_claim_126 : decode cX12_claim 126 = .ok (.iconst 1, 1) := by decide +kernel
theorem dX12_claim_127 : decode cX12_claim 127 = .ok (.iadd, 1) := by decide +kernel
theorem dX12_claim_128 : decode cX12_claim 128 = .ok (.putfield 221, 3) := by decide +kernel
theorem dX12_claim_131 : decode cX12_claim 131 = .ok (.aload_n 0, 1) := by decide +kernel
theorem dX12_claim_132 : decode cX12_claim 132 = .ok (.getfield 221, 3) := by decide +kernel
theorem dX12_claim_135 : decode cX12_claim 135 = .ok (.iconst 1, 1) := by decide +kernel
theorem dX12_claim_136 : decode cX12_claim 136 = .ok (.isub, 1) := by decide +kernel
theorem dX12_claim_137 : decode cX12_claim 137 = .ok (.ireturn, 1) := by decide +kernel
theorem dX12_right_0 : decode cX12_right 0 = .ok (.iload_n 1, 1) := by decide +kernel
theorem dX12_right_1 : decode cX12_right 1 = .ok (.iconst 0, 1) := by decide +kernel
theorem dX12_right_2 : decode cX12_right 2 = .ok (.aload_n 0, 1) := by decide +kernel
theorem dX12_right_3 : decode cX12_right 3 = .ok (.getfield 221, 3) := by decide +kernel
theorem dX12_right_6 : decode cX12_right 6 = .ok (.iconst 1, 1) := by decide +kernel
theorem dX12_right_7 : decode cX12_right 7 = .ok (.isub, 1) := by decide +kernel
theorem dX12_right_8 : decode cX12_right 8 = .ok (.invokestatic 123, 3) := by decide +kernel
theorem dX12_right_11 : decode cX12_right 11 = .ok (.ifCond .ne 5, 3) := by decide +kernel
theorem dX12_right_14 : decode cX12_right 14 = .ok (.iconst (-1), 1) := by decide +kernel
theorem dX12_right_15 : decode cX12_right 15 = .ok (.ireturn, 1) := by decide +kernel
theorem dX12_right_16 : decode cX12_right 16 = .ok (.aload_n 0, 1) := by decide +kernel
theorem dX12_right_17 : decode cX12_right 17 = .ok (.getfield 218, 3) := by decide +kernel
theorem dX12_right_20 : decode cX12_right 20 = .ok (.ifCond .ne 8, 3) := by decide +kernel
theorem dX12_right_23 : decode cX12_right 23 = .ok (.bipush (-3), 2) := by decide +kernel
theorem dX12_right_25 : decode cX12_right 25 = .ok (.goto 17, 3) := by decide +kernel
theorem dX12_right_28 : decode cX12_right 28 = .ok (.aload_n 0, 1) := by decide +kernel
theorem dX12_right_29 : decode cX12_right 29 = .ok (.getfield 72, 3) := by decide +kernel
theorem dX12_right_32 : decode cX12_right 32 = .ok (.iload_n 1, 1) := by decide +kernel
theorem dX12_right_33 : decode cX12_right 33 = .ok (.baload, 1) := by decide +kernel
theorem dX12_right_34 : decode cX12_right 34 = .ok (.ifCond .eq 7, 3) := by decide +kernel
theorem dX12_right_37 : decode cX12_right 37 = .ok (.iconst 1, 1) := by decide +kernel
theorem dX12_right_38 : decode cX12_right 38 = .ok (.goto 4, 3) := by decide +kernel
theorem dX12_right_41 : decode cX12_right 41 = .ok (.iconst 0, 1) := by decide +kernel
theorem dX12_right_42 : decode cX12_right 42 = .ok (.ireturn, 1) := by decide +kernel
theorem dX12_sure_0 : decode cX12_sure 0 = .ok (.iload_n 2, 1) := by decide +kernel
theorem dX12_sure_1 : decode cX12_sure 1 = .ok (.iconst 0, 1) := by decide +kernel
theorem dX12_sure_2 : decode cX12_sure 2 = .ok (.iconst 1, 1) := by decide +kernel
theorem dX12_sure_3 : decode cX12_sure 3 = .ok (.invokestatic 123, 3) := by decide +kernel
theorem dX12_sure_6 : decode cX12_sure 6 = .ok (.ifCond .ne 5, 3) := by decide +kernel
theorem dX12_sure_9 : decode cX12_sure 9 = .ok (.iconst (-1), 1) := by decide +kernel
theorem dX12_sure_10 : decode cX12_sure 10 = .ok (.ireturn, 1) := by decide +kernel
theorem dX12_sure_11 : decode cX12_sure 11 = .ok (.iload_n 1, 1) := by decide +kernel
theorem dX12_sure_12 : decode cX12_sure 12 = .ok (.iconst 0, 1) := by decide +kernel
theorem dX12_sure_13 : decode cX12_sure 13 = .ok (.bipush 10, 2) := by decide +kernel
theorem dX12_sure_15 : decode cX12_sure 15 = .ok (.invokestatic 123, 3) := by decide +kernel
theorem dX12_sure_18 : decode cX12_sure 18 = .ok (.ifCond .ne 6, 3) := by decide +kernel
theorem dX12_sure_21 : decode cX12_sure 21 = .ok (.bipush (-2), 2) := by decide +kernel
theorem dX12_sure_23 : decode cX12_sure 23 = .ok (.ireturn, 1) := by decide +kernel
theorem dX12_sure_24 : decode cX12_sure 24 = .ok (.iload_n 2, 1) := by decide +kernel
theorem dX12_sure_25 : decode cX12_sure 25 = .ok (.iconst 1, 1) := by decide +kernel
theorem dX12_sure_26 : decode cX12_sure 26 = .ok (.if_icmp .ne 13, 3) := by decide +kernel
theorem dX12_sure_29 : decode cX12_sure 29 = .ok (.aload_n 0, 1) := by decide +kernel
theorem dX12_sure_30 : decode cX12_sure 30 = .ok (.getfield 218, 3) := by decide +kernel
theorem dX12_sure_33 : decode cX12_sure 33 = .ok (.ifCond .ne 6, 3) := by decide +kernel
theorem dX12_sure_36 : decode cX12_sure 36 = .ok (.bipush (-3), 2) := by decide +kernel
theorem dX12_sure_38 : decode cX12_sure 38 = .ok (.ireturn, 1) := by decide +kernel
theorem dX12_sure_39 : decode cX12_sure 39 = .ok (.iconst 0, 1) := by decide +kernel
theorem dX12_sure_40 : decode cX12_sure 40 = .ok (.istore_n 3, 1) := by decide +kernel
theorem dX12_sure_41 : decode cX12_sure 41 = .ok (.iconst 0, 1) := by decide +kernel
theorem dX12_sure_42 : decode cX12_sure 42 = .ok (.istore 4, 2) := by decide +kernel
theorem dX12_sure_44 : decode cX12_sure 44 = .ok (.iload 4, 2) := by decide +kernel
theorem dX12_sure_46 : decode cX12_sure 46 = .ok (.aload_n 0, 1) := by decide +kernel
theorem dX12_sure_47 : decode cX12_sure 47 = .ok (.getfield 221, 3) := by decide +kernel
theorem dX12_sure_50 : decode cX12_sure 50 = .ok (.if_icmp .ge 42, 3) := by decide +kernel
theorem dX12_sure_53 : decode cX12_sure 53 = .ok (.iload_n 3, 1) := by decide +kernel
theorem dX12_sure_54 : decode cX12_sure 54 = .ok (.aload_n 0, 1) := by decide +kernel
theorem dX12_sure_55 : decode cX12_sure 55 = .ok (.getfield 69, 3) := by decide +kernel
theorem dX12_sure_58 : decode cX12_sure 58 = .ok (.iload 4, 2) := by decide +kernel
theorem dX12_sure_60 : decode cX12_sure 60 = .ok (.iaload, 1) := by decide +kernel
theorem dX12_sure_61 : decode cX12_sure 61 = .ok (.iload_n 1, 1) := by decide +kernel
theorem dX12_sure_62 : decode cX12_sure 62 = .ok (.if_icmp .ne 21, 3) := by decide +kernel
theorem dX12_sure_65 : decode cX12_sure 65 = .ok (.iload_n 2, 1) := by decide +kernel
theorem dX12_sure_66 : decode cX12_sure 66 = .ok (.ifCond .eq 13, 3) := by decide +kernel
theorem dX12_sure_69 : decode cX12_sure 69 = .ok (.aload_n 0, 1) := by decide +kernel
theorem dX12_sure_70 : decode cX12_sure 70 = .ok (.getfield 72, 3) := by decide +kernel
theorem dX12_sure_73 : decode cX12_sure 73 = .ok (.iload 4, 2) := by decide +kernel
theorem dX12_sure_75 : decode cX12_sure 75 = .ok (.baload, 1) := by decide +kernel
theorem dX12_sure_76 : decode cX12_sure 76 = .ok (.ifCond .eq 7, 3) := by decide +kernel
theorem dX12_sure_79 : decode cX12_sure 79 = .ok (.iconst 1, 1) := by decide +kernel
theorem dX12_sure_80 : decode cX12_sure 80 = .ok (.goto 4, 3) := by decide +kernel
theorem dX12_sure_83 : decode cX12_sure 83 = .ok (.iconst 0, 1) := by decide +kernel
theorem dX12_sure_84 : decode cX12_sure 84 = .ok (.iadd, 1) := by decide +kernel
theorem dX12_sure_85 : decode cX12_sure 85 = .ok (.istore_n 3, 1) := by decide +kernel
theorem dX12_sure_86 : decode cX12_sure 86 = .ok (.iinc 4 1, 3) := by decide +kernel
theorem dX12_sure_89 : decode cX12_sure 89 = .ok (.goto (-45), 3) := by decide +kernel
theorem dX12_sure_92 : decode cX12_sure 92 = .ok (.iload_n 3, 1) := by decide +kernel
theorem dX12_sure_93 : decode cX12_sure 93 = .ok (.ireturn, 1) := by decide +kernel
theorem dX12_runs_0 : decode cX12_runs 0 = .ok (.aload_n 0, 1) := by decide +kernel
theorem dX12_runs_1 : decode cX12_runs 1 = .ok (.getfield 302, 3) := by decide +kernel
theorem dX12_runs_4 : decode cX12_runs 4 = .ok (.bipush 20, 2) := by decide +kernel
theorem dX12_runs_6 : decode cX12_runs 6 = .ok (.if_icmp .ge 13, 3) := by decide +kernel
theorem dX12_runs_9 : decode cX12_runs 9 = .ok (.aload_n 0, 1) := by decide +kernel
theorem dX12_runs_10 : decode cX12_runs 10 = .ok (.getfield 114, 3) := by decide +kernel
theorem dX12_runs_13 : decode cX12_runs 13 = .ok (.aload_n 0, 1) := by decide +kernel
theorem dX12_runs_14 : decode cX12_runs 14 = .ok (.getfield 302, 3) := by decide +kernel
theorem dX12_runs_17 : decode cX12_runs 17 = .ok (.iload_n 1, 1) := by decide +kernel
theorem dX12_runs_18 : decode cX12_runs 18 = .ok (.iastore, 1) := by decide +kernel
theorem dX12_runs_19 : decode cX12_runs 19 = .ok (.aload_n 0, 1) := by decide +kernel
theorem dX12_runs_20 : decode cX12_runs 20 = .ok (.dup, 1) := by decide +kernel
theorem dX12_runs_21 : decode cX12_runs 21 = .ok (.getfield 302, 3) := by decide +kernel
theorem dX12_runs_24 : decode cX12_runs 24 = .ok (.iconst 1, 1) := by decide +kernel
theorem dX12_runs_25 : decode cX12_runs 25 = .ok (.iadd, 1) := by decide +kernel
theorem dX12_runs_26 : decode cX12_runs 26 = .ok (.putfield 302, 3) := by decide +kernel
theorem dX12_runs_29 : decode cX12_runs 29 = .ok (.return_, 1) := by decide +kernel
theorem dX12_isUnder_0 : decode cX12_isUnder 0 = .ok (.iload_n 1, 1) := by decide +kernel
theorem dX12_isUnder_1 : decode cX12_isUnder 1 = .ok (.ifCond .eq 28, 3) := by decide +kernel
theorem dX12_isUnder_4 : decode cX12_isUnder 4 = .ok (.iload_n 1, 1) := by decide +kernel
theorem dX12_isUnder_5 : decode cX12_isUnder 5 = .ok (.iload_n 0, 1) := by decide +kernel
theorem dX12_isUnder_6 : decode cX12_isUnder 6 = .ok (.if_icmp .eq 23, 3) := by decide +kernel
theorem dX12_isUnder_9 : decode cX12_isUnder 9 = .ok (.iload_n 1, 1) := by decide +kernel
theorem dX12_isUnder_10 : decode cX12_isUnder 10 = .ok (.iconst 1, 1) := by decide +kernel
theorem dX12_isUnder_11 : decode cX12_isUnder 11 = .ok (.if_icmp .ne 8, 3) := by decide +kernel
theorem dX12_isUnder_14 : decode cX12_isUnder 14 = .ok (.iload_n 0, 1) := by decide +kernel
theorem dX12_isUnder_15 : decode cX12_isUnder 15 = .ok (.iconst 4, 1) := by decide +kernel
theorem dX12_isUnder_16 : decode cX12_isUnder 16 = .ok (.if_icmp .eq 13, 3) := by decide +kernel
theorem dX12_isUnder_19 : decode cX12_isUnder 19 = .ok (.iload_n 1, 1) := by decide +kernel
theorem dX12_isUnder_20 : decode cX12_isUnder 20 = .ok (.iconst 2, 1) := by decide +kernel
theorem dX12_isUnder_21 : decode cX12_isUnder 21 = .ok (.if_icmp .ne 12, 3) := by decide +kernel
theorem dX12_isUnder_24 : decode cX12_isUnder 24 = .ok (.iload_n 0, 1) := by decide +kernel
theorem dX12_isUnder_25 : decode cX12_isUnder 25 = .ok (.iconst 4, 1) := by decide +kernel
theorem dX12_isUnder_26 : decode cX12_isUnder 26 = .ok (.if_icmp .le 7, 3) := by decide +kernel
theorem dX12_isUnder_29 : decode cX12_isUnder 29 = .ok (.iconst 1, 1) := by decide +kernel
theorem dX12_isUnder_30 : decode cX12_isUnder 30 = .ok (.goto 4, 3) := by decide +kernel
theorem dX12_isUnder_33 : decode cX12_isUnder 33 = .ok (.iconst 0, 1) := by decide +kernel
theorem dX12_isUnder_34 : decode cX12_isUnder 34 = .ok (.ireturn, 1) := by decide +kernel
theorem dX12_plainTells_0 : decode cX12_plainTells 0 = .ok (.aload_n 0, 1) := by decide +kernel
theorem dX12_plainTells_1 : decode cX12_plainTells 1 = .ok (.iconst 1, 1) := by decide +kernel
theorem dX12_plainTells_2 : decode cX12_plainTells 2 = .ok (.invokevirtual 305, 3) := by decide +kernel
theorem dX12_plainTells_5 : decode cX12_plainTells 5 = .ok (.iload_n 1, 1) := by decide +kernel
theorem dX12_plainTells_6 : decode cX12_plainTells 6 = .ok (.aload_n 0, 1) := by decide +kernel
theorem dX12_plainTells_7 : decode cX12_plainTells 7 = .ok (.getfield 308, 3) := by decide +kernel
theorem dX12_plainTells_10 : decode cX12_plainTells 10 = .ok (.iadd, 1) := by decide +kernel
theorem dX12_plainTells_11 : decode cX12_plainTells 11 = .ok (.ireturn, 1) := by decide +kernel
theorem dX12_tells_0 : decode cX12_tells 0 = .ok (.aload_n 0, 1) := by decide +kernel
theorem dX12_tells_1 : decode cX12_tells 1 = .ok (.getfield 311, 3) := by decide +kernel
theorem dX12_tells_4 : decode cX12_tells 4 = .ok (.iconst 5, 1) := by decide +kernel
theorem dX12_tells_5 : decode cX12_tells 5 = .ok (.if_icmp .ne 20, 3) := by decide +kernel
theorem dX12_tells_8 : decode cX12_tells 8 = .ok (.aload_n 0, 1) := by decide +kernel
theorem dX12_tells_9 : decode cX12_tells 9 = .ok (.bipush 51, 2) := by decide +kernel
theorem dX12_tells_11 : decode cX12_tells 11 = .ok (.invokevirtual 305, 3) := by decide +kernel
theorem dX12_tells_14 : decode cX12_tells 14 = .ok (.aload_n 0, 1) := by decide +kernel
theorem dX12_tells_15 : decode cX12_tells 15 = .ok (.iload_n 1, 1) := by decide +kernel
theorem dX12_tells_16 : decode cX12_tells 16 = .ok (.invokevirtual 314, 3) := by decide +kernel
theorem dX12_tells_19 : decode cX12_tells 19 = .ok (.aload_n 0, 1) := by decide +kernel
theorem dX12_tells_20 : decode cX12_tells 20 = .ok (.getfield 308, 3) := by decide +kernel
theorem dX12_tells_23 : decode cX12_tells 23 = .ok (.iadd, 1) := by decide +kernel
theorem dX12_tells_24 : decode cX12_tells 24 = .ok (.ireturn, 1) := by decide +kernel
theorem dX12_tells_25 : decode cX12_tells 25 = .ok (.aload_n 0, 1) := by decide +kernel
theorem dX12_tells_26 : decode cX12_tells 26 = .ok (.getfield 311, 3) := by decide +kernel
theorem dX12_tells_29 : decode cX12_tells 29 = .ok (.iconst 1, 1) := by decide +kernel
theorem dX12_tells_30 : decode cX12_tells 30 = .ok (.invokestatic 317, 3) := by decide +kernel
theorem dX12_tells_33 : decode cX12_tells 33 = .ok (.ifCond .eq 17, 3) := by decide +kernel
theorem dX12_tells_36 : decode cX12_tells 36 = .ok (.aload_n 0, 1) := by decide +kernel
theorem dX12_tells_37 : decode cX12_tells 37 = .ok (.bipush 11, 2) := by decide +kernel
theorem dX12_tells_39 : decode cX12_tells 39 = .ok (.invokevirtual 305, 3) := by decide +kernel
theorem dX12_tells_42 : decode cX12_tells 42 = .ok (.aload_n 0, 1) := by decide +kernel
theorem dX12_tells_43 : decode cX12_tells 43 = .ok (.iload_n 1, 1) := by decide +kernel
theorem dX12_tells_44 : decode cX12_tells 44 = .ok (.iconst 3, 1) := by decide +kernel
theorem dX12_tells_45 : decode cX12_tells 45 = .ok (.imul, 1) := by decide +kernel
theorem dX12_tells_46 : decode cX12_tells 46 = .ok (.invokevirtual 314, 3) := by decide +kernel
theorem dX12_tells_49 : decode cX12_tells 49 = .ok (.ireturn, 1) := by decide +kernel
theorem dX12_tells_50 : decode cX12_tells 50 = .ok (.aload_n 0, 1) := by decide +kernel
theorem dX12_tells_51 : decode cX12_tells 51 = .ok (.iload_n 1, 1) := by decide +kernel
theorem dX12_tells_52 : decode cX12_tells 52 = .ok (.invokevirtual 314, 3) := by decide +kernel
theorem dX12_tells_55 : decode cX12_tells 55 = .ok (.ireturn, 1) := by decide +kernel
theorem dX12_plainLeads_0 : decode cX12_plainLeads 0 = .ok (.aload_n 0, 1) := by decide +kernel
theorem dX12_plainLeads_1 : decode cX12_plainLeads 1 = .ok (.iconst 2, 1) := by decide +kernel
theorem dX12_plainLeads_2 : decode cX12_plainLeads 2 = .ok (.invokevirtual 305, 3) := by decide +kernel
theorem dX12_plainLeads_5 : decode cX12_plainLeads 5 = .ok (.aload_n 0, 1) := by decide +kernel
theorem dX12_plainLeads_6 : decode cX12_plainLeads 6 = .ok (.iload_n 1, 1) := by decide +kernel
theorem dX12_plainLeads_7 : decode cX12_plainLeads 7 = .ok (.invokevirtual 320, 3) := by decide +kernel
theorem dX12_plainLeads_10 : decode cX12_plainLeads 10 = .ok (.aload_n 0, 1) := by decide +kernel
theorem dX12_plainLeads_11 : decode cX12_plainLeads 11 = .ok (.getfield 323, 3) := by decide +kernel
theorem dX12_plainLeads_14 : decode cX12_plainLeads 14 = .ok (.isub, 1) := by decide +kernel
theorem dX12_plainLeads_15 : decode cX12_plainLeads 15 = .ok (.ireturn, 1) := by decide +kernel
theorem dX12_leads_0 : decode cX12_leads 0 = .ok (.aload_n 0, 1) := by decide +kernel
theorem dX12_leads_1 : decode cX12_leads 1 = .ok (.getfield 311, 3) := by decide +kernel
theorem dX12_leads_4 : decode cX12_leads 4 = .ok (.iconst 4, 1) := by decide +kernel
theorem dX12_leads_5 : decode cX12_leads 5 = .ok (.if_icmp .ne 25, 3) := by decide +kernel
theorem dX12_leads_8 : decode cX12_leads 8 = .ok (.aload_n 0, 1) := by decide +kernel
theorem dX12_leads_9 : decode cX12_leads 9 = .ok (.bipush 41, 2) := by decide +kernel
theorem dX12_leads_11 : decode cX12_leads 11 = .ok (.invokevirtual 305, 3) := by decide +kernel
theorem dX12_leads_14 : decode cX12_leads 14 = .ok (.aload_n 0, 1) := by decide +kernel
theorem dX12_leads_15 : decode cX12_leads 15 = .ok (.iload_n 1, 1) := by decide +kernel
theorem dX12_leads_16 : decode cX12_leads 16 = .ok (.iconst 1, 1) := by decide +kernel
theorem dX12_leads_17 : decode cX12_leads 17 = .ok (.isub, 1) := by decide +kernel
theorem dX12_leads_18 : decode cX12_leads 18 = .ok (.invokevirtual 326, 3) := by decide +kernel
theorem dX12_leads_21 : decode cX12_leads 21 = .ok (.istore_n 2, 1) := by decide +kernel
theorem dX12_leads_22 : decode cX12_leads 22 = .ok (.iload_n 2, 1) := by decide +kernel
theorem dX12_leads_23 : decode cX12_leads 23 = .ok (.aload_n 0, 1) := by decide +kernel
theorem dX12_leads_24 : decode cX12_leads 24 = .ok (.iconst 2, 1) := by decide +kernel
theorem dX12_leads_25 : decode cX12_leads 25 = .ok (.invokevirtual 320, 3) := by decide +kernel
theorem dX12_leads_28 : decode cX12_leads 28 = .ok (.iadd, 1) := by decide +kernel
theorem dX12_leads_29 : decode cX12_leads 29 = .ok (.ireturn, 1) := by decide +kernel
theorem dX12_leads_30 : decode cX12_leads 30 = .ok (.aload_n 0, 1) := by decide +kernel
theorem dX12_leads_31 : decode cX12_leads 31 = .ok (.getfield 311, 3) := by decide +kernel
theorem dX12_leads_34 : decode cX12_leads 34 = .ok (.iconst 2, 1) := by decide +kernel
theorem dX12_leads_35 : decode cX12_leads 35 = .ok (.invokestatic 317, 3) := by decide +kernel
theorem dX12_leads_38 : decode cX12_leads 38 = .ok (.ifCond .eq 18, 3) := by decide +kernel
theorem dX12_leads_41 : decode cX12_leads 41 = .ok (.aload_n 0, 1) := by decide +kernel
theorem dX12_leads_42 : decode cX12_leads 42 = .ok (.bipush 21, 2) := by decide +kernel
theorem dX12_leads_44 : decode cX12_leads 44 = .ok (.invokevirtual 305, 3) := by decide +kernel
theorem dX12_leads_47 : decode cX12_leads 47 = .ok (.aload_n 0, 1) := by decide +kernel
theorem dX12_leads_48 : decode cX12_leads 48 = .ok (.iload_n 1, 1) := by decide +kernel
theorem dX12_leads_49 : decode cX12_leads 49 = .ok (.invokevirtual 326, 3) := by decide +kernel
theorem dX12_leads_52 : decode cX12_leads 52 = .ok (.bipush 7, 2) := by decide +kernel
theorem dX12_leads_54 : decode cX12_leads 54 = .ok (.ixor, 1) := by decide +kernel
theorem dX12_leads_55 : decode cX12_leads 55 = .ok (.ireturn, 1) := by decide +kernel
theorem dX12_leads_56 : decode cX12_leads 56 = .ok (.aload_n 0, 1) := by decide +kernel
theorem dX12_leads_57 : decode cX12_leads 57 = .ok (.iload_n 1, 1) := by decide +kernel
theorem dX12_leads_58 : decode cX12_leads 58 = .ok (.invokevirtual 326, 3) := by decide +kernel
theorem dX12_leads_61 : decode cX12_leads 61 = .ok (.ireturn, 1) := by decide +kernel
theorem dX12_plainMarks_0 : decode cX12_plainMarks 0 = .ok (.aload_n 0, 1) := by decide +kernel
theorem dX12_plainMarks_1 : decode cX12_plainMarks 1 = .ok (.iconst 3, 1) := by decide +kernel
theorem dX12_plainMarks_2 : decode cX12_plainMarks 2 = .ok (.invokevirtual 305, 3) := by decide +kernel
theorem dX12_plainMarks_5 : decode cX12_plainMarks 5 = .ok (.aload_n 0, 1) := by decide +kernel
theorem dX12_plainMarks_6 : decode cX12_plainMarks 6 = .ok (.iload_n 1, 1) := by decide +kernel
theorem dX12_plainMarks_7 : decode cX12_plainMarks 7 = .ok (.invokevirtual 329, 3) := by decide +kernel
theorem dX12_plainMarks_10 : decode cX12_plainMarks 10 = .ok (.iconst 2, 1) := by decide +kernel
theorem dX12_plainMarks_11 : decode cX12_plainMarks 11 = .ok (.imul, 1) := by decide +kernel
theorem dX12_plainMarks_12 : decode cX12_plainMarks 12 = .ok (.ireturn, 1) := by decide +kernel
theorem dX12_marks_0 : decode cX12_marks 0 = .ok (.aload_n 0, 1) := by decide +kernel
theorem dX12_marks_1 : decode cX12_marks 1 = .ok (.getfield 311, 3) := by decide +kernel
theorem dX12_marks_4 : decode cX12_marks 4 = .ok (.iconst 3, 1) := by decide +kernel
theorem dX12_marks_5 : decode cX12_marks 5 = .ok (.if_icmp .ne 16, 3) := by decide +kernel
theorem dX12_marks_8 : decode cX12_marks 8 = .ok (.aload_n 0, 1) := by decide +kernel
theorem dX12_marks_9 : decode cX12_marks 9 = .ok (.bipush 31, 2) := by decide +kernel
theorem dX12_marks_11 : decode cX12_marks 11 = .ok (.invokevirtual 305, 3) := by decide +kernel
theorem dX12_marks_14 : decode cX12_marks 14 = .ok (.aload_n 0, 1) := by decide +kernel
theorem dX12_marks_15 : decode cX12_marks 15 = .ok (.iload_n 1, 1) := by decide +kernel
theorem dX12_marks_16 : decode cX12_marks 16 = .ok (.invokevirtual 332, 3) := by decide +kernel
theorem dX12_marks_19 : decode cX12_marks 19 = .ok (.ineg, 1) := by decide +kernel
theorem dX12_marks_20 : decode cX12_marks 20 = .ok (.ireturn, 1) := by decide +kernel
theorem dX12_marks_21 : decode cX12_marks 21 = .ok (.aload_n 0, 1) := by decide +kernel
theorem dX12_marks_22 : decode cX12_marks 22 = .ok (.getfield 311, 3) := by decide +kernel
theorem dX12_marks_25 : decode cX12_marks 25 = .ok (.bipush 6, 2) := by decide +kernel
theorem dX12_marks_27 : decode cX12_marks 27 = .ok (.if_icmp .ne 19, 3) := by decide +kernel
theorem dX12_marks_30 : decode cX12_marks 30 = .ok (.aload_n 0, 1) := by decide +kernel
theorem dX12_marks_31 : decode cX12_marks 31 = .ok (.bipush 61, 2) := by decide +kernel
theorem dX12_marks_33 : decode cX12_marks 33 = .ok (.invokevirtual 305, 3) := by decide +kernel
theorem dX12_marks_36 : decode cX12_marks 36 = .ok (.aload_n 0, 1) := by decide +kernel
theorem dX12_marks_37 : decode cX12_marks 37 = .ok (.iload_n 1, 1) := by decide +kernel
theorem dX12_marks_38 : decode cX12_marks 38 = .ok (.iconst 1, 1) := by decide +kernel
theorem dX12_marks_39 : decode cX12_marks 39 = .ok (.iadd, 1) := by decide +kernel
theorem dX12_marks_40 : decode cX12_marks 40 = .ok (.invokevirtual 332, 3) := by decide +kernel
theorem dX12_marks_43 : decode cX12_marks 43 = .ok (.iconst 3, 1) := by decide +kernel
theorem dX12_marks_44 : decode cX12_marks 44 = .ok (.ixor, 1) := by decide +kernel
theorem dX12_marks_45 : decode cX12_marks 45 = .ok (.ireturn, 1) := by decide +kernel
theorem dX12_marks_46 : decode cX12_marks 46 = .ok (.aload_n 0, 1) := by decide +kernel
theorem dX12_marks_47 : decode cX12_marks 47 = .ok (.iload_n 1, 1) := by decide +kernel
theorem dX12_marks_48 : decode cX12_marks 48 = .ok (.invokevirtual 332, 3) := by decide +kernel
theorem dX12_marks_51 : decode cX12_marks 51 = .ok (.ireturn, 1) := by decide +kernel
theorem dX12_act_0 : decode cX12_act 0 = .ok (.aload_n 0, 1) := by decide +kernel
theorem dX12_act_1 : decode cX12_act 1 = .ok (.iconst 0, 1) := by decide +kernel
theorem dX12_act_2 : decode cX12_act 2 = .ok (.putfield 302, 3) := by decide +kernel
theorem dX12_act_5 : decode cX12_act 5 = .ok (.iload_n 1, 1) := by decide +kernel
theorem dX12_act_6 : decode cX12_act 6 = .ok (.iconst 0, 1) := by decide +kernel
theorem dX12_act_7 : decode cX12_act 7 = .ok (.aload_n 0, 1) := by decide +kernel
theorem dX12_act_8 : decode cX12_act 8 = .ok (.getfield 189, 3) := by decide +kernel
theorem dX12_act_11 : decode cX12_act 11 = .ok (.iconst 1, 1) := by decide +kernel
theorem dX12_act_12 : decode cX12_act 12 = .ok (.isub, 1) := by decide +kernel
theorem dX12_act_13 : decode cX12_act 13 = .ok (.invokestatic 123, 3) := by decide +kernel
theorem dX12_act_16 : decode cX12_act 16 = .ok (.ifCond .eq 12, 3) := by decide +kernel
theorem dX12_act_19 : decode cX12_act 19 = .ok (.iload_n 2, 1) := by decide +kernel
theorem dX12_act_20 : decode cX12_act 20 = .ok (.iconst 0, 1) := by decide +kernel
theorem dX12_act_21 : decode cX12_act 21 = .ok (.iconst 2, 1) := by decide +kernel
theorem dX12_act_22 : decode cX12_act 22 = .ok (.invokestatic 123, 3) := by decide +kernel
theorem dX12_act_25 : decode cX12_act 25 = .ok (.ifCond .ne 5, 3) := by decide +kernel
theorem dX12_act_28 : decode cX12_act 28 = .ok (.iconst 0, 1) := by decide +kernel
theorem dX12_act_29 : decode cX12_act 29 = .ok (.ireturn, 1) := by decide +kernel
theorem dX12_act_30 : decode cX12_act 30 = .ok (.aload_n 0, 1) := by decide +kernel
theorem dX12_act_31 : decode cX12_act 31 = .ok (.aload_n 0, 1) := by decide +kernel
theorem dX12_act_32 : decode cX12_act 32 = .ok (.getfield 54, 3) := by decide +kernel
theorem dX12_act_35 : decode cX12_act 35 = .ok (.iload_n 1, 1) := by decide +kernel
theorem dX12_act_36 : decode cX12_act 36 = .ok (.iaload, 1) := by decide +kernel
theorem dX12_act_37 : decode cX12_act 37 = .ok (.putfield 311, 3) := by decide +kernel
theorem dX12_act_40 : decode cX12_act 40 = .ok (.aload_n 0, 1) := by decide +kernel
theorem dX12_act_41 : decode cX12_act 41 = .ok (.iload_n 1, 1) := by decide +kernel
theorem dX12_act_42 : decode cX12_act 42 = .ok (.putfield 308, 3) := by decide +kernel
theorem dX12_act_45 : decode cX12_act 45 = .ok (.aload_n 0, 1) := by decide +kernel
theorem dX12_act_46 : decode cX12_act 46 = .ok (.aload_n 0, 1) := by decide +kernel
theorem dX12_act_47 : decode cX12_act 47 = .ok (.getfield 57, 3) := by decide +kernel
theorem dX12_act_50 : decode cX12_act 50 = .ok (.iload_n 1, 1) := by decide +kernel
theorem dX12_act_51 : decode cX12_act 51 = .ok (.iaload, 1) := by decide +kernel
theorem dX12_act_52 : decode cX12_act 52 = .ok (.putfield 323, 3) := by decide +kernel
theorem dX12_act_55 : decode cX12_act 55 = .ok (.iload_n 2, 1) := by decide +kernel
theorem dX12_act_56 : decode cX12_act 56 = .ok (.ifCond .ne 11, 3) := by decide +kernel
theorem dX12_act_59 : decode cX12_act 59 = .ok (.aload_n 0, 1) := by decide +kernel
theorem dX12_act_60 : decode cX12_act 60 = .ok (.iload_n 3, 1) := by decide +kernel
theorem dX12_act_61 : decode cX12_act 61 = .ok (.invokevirtual 320, 3) := by decide +kernel
theorem dX12_act_64 : decode cX12_act 64 = .ok (.goto 21, 3) := by decide +kernel
theorem dX12_act_67 : decode cX12_act 67 = .ok (.iload_n 2, 1) := by decide +kernel
theorem dX12_act_68 : decode cX12_act 68 = .ok (.iconst 1, 1) := by decide +kernel
theorem dX12_act_69 : decode cX12_act 69 = .ok (.if_icmp .ne 11, 3) := by decide +kernel
theorem dX12_act_72 : decode cX12_act 72 = .ok (.aload_n 0, 1) := by decide +kernel
theorem dX12_act_73 : decode cX12_act 73 = .ok (.iload_n 3, 1) := by decide +kernel
theorem dX12_act_74 : decode cX12_act 74 = .ok (.invokevirtual 329, 3) := by decide +kernel
theorem dX12_act_77 : decode cX12_act 77 = .ok (.goto 8, 3) := by decide +kernel
theorem dX12_act_80 : decode cX12_act 80 = .ok (.aload_n 0, 1) := by decide +kernel
theorem dX12_act_81 : decode cX12_act 81 = .ok (.iload_n 3, 1) := by decide +kernel
theorem dX12_act_82 : decode cX12_act 82 = .ok (.invokevirtual 335, 3) := by decide +kernel
theorem dX12_act_85 : decode cX12_act 85 = .ok (.ireturn, 1) := by decide +kernel
theorem dX12_trace_0 : decode cX12_trace 0 = .ok (.iload_n 1, 1) := by decide +kernel
theorem dX12_trace_1 : decode cX12_trace 1 = .ok (.iconst 0, 1) := by decide +kernel
theorem dX12_trace_2 : decode cX12_trace 2 = .ok (.aload_n 0, 1) := by decide +kernel
theorem dX12_trace_3 : decode cX12_trace 3 = .ok (.getfield 302, 3) := by decide +kernel
theorem dX12_trace_6 : decode cX12_trace 6 = .ok (.bipush 20, 2) := by decide +kernel
theorem dX12_trace_8 : decode cX12_trace 8 = .ok (.if_icmp .ge 10, 3) := by decide +kernel
theorem dX12_trace_11 : decode cX12_trace 11 = .ok (.aload_n 0, 1) := by decide +kernel
theorem dX12_trace_12 : decode cX12_trace 12 = .ok (.getfield 302, 3) := by decide +kernel
theorem dX12_trace_15 : decode cX12_trace 15 = .ok (.goto 5, 3) := by decide +kernel
theorem dX12_trace_18 : decode cX12_trace 18 = .ok (.bipush 20, 2) := by decide +kernel
theorem dX12_trace_20 : decode cX12_trace 20 = .ok (.iconst 1, 1) := by decide +kernel
theorem dX12_trace_21 : decode cX12_trace 21 = .ok (.isub, 1) := by decide +kernel
theorem dX12_trace_22 : decode cX12_trace 22 = .ok (.invokestatic 123, 3) := by decide +kernel
theorem dX12_trace_25 : decode cX12_trace 25 = .ok (.ifCond .eq 12, 3) := by decide +kernel
theorem dX12_trace_28 : decode cX12_trace 28 = .ok (.aload_n 0, 1) := by decide +kernel
theorem dX12_trace_29 : decode cX12_trace 29 = .ok (.getfield 114, 3) := by decide +kernel
theorem dX12_trace_32 : decode cX12_trace 32 = .ok (.iload_n 1, 1) := by decide +kernel
theorem dX12_trace_33 : decode cX12_trace 33 = .ok (.iaload, 1) := by decide +kernel
theorem dX12_trace_34 : decode cX12_trace 34 = .ok (.goto 4, 3) := by decide +kernel
theorem dX12_trace_37 : decode cX12_trace 37 = .ok (.iconst (-1), 1) := by decide +kernel
theorem dX12_trace_38 : decode cX12_trace 38 = .ok (.ireturn, 1) := by decide +kernel
theorem dX12_as_0 : decode cX12_as 0 = .ok (.iload_n 1, 1) := by decide +kernel
theorem dX12_as_1 : decode cX12_as 1 = .ok (.iconst 0, 1) := by decide +kernel
theorem dX12_as_2 : decode cX12_as 2 = .ok (.aload_n 0, 1) := by decide +kernel
theorem dX12_as_3 : decode cX12_as 3 = .ok (.getfield 189, 3) := by decide +kernel
theorem dX12_as_6 : decode cX12_as 6 = .ok (.iconst 1, 1) := by decide +kernel
theorem dX12_as_7 : decode cX12_as 7 = .ok (.isub, 1) := by decide +kernel
theorem dX12_as_8 : decode cX12_as 8 = .ok (.invokestatic 123, 3) := by decide +kernel
theorem dX12_as_11 : decode cX12_as 11 = .ok (.ifCond .eq 13, 3) := by decide +kernel
theorem dX12_as_14 : decode cX12_as 14 = .ok (.iload_n 2, 1) := by decide +kernel
theorem dX12_as_15 : decode cX12_as 15 = .ok (.iconst 0, 1) := by decide +kernel
theorem dX12_as_16 : decode cX12_as 16 = .ok (.bipush 6, 2) := by decide +kernel
theorem dX12_as_18 : decode cX12_as 18 = .ok (.invokestatic 123, 3) := by decide +kernel
theorem dX12_as_21 : decode cX12_as 21 = .ok (.ifCond .ne 5, 3) := by decide +kernel
theorem dX12_as_24 : decode cX12_as 24 = .ok (.iconst (-1), 1) := by decide +kernel
theorem dX12_as_25 : decode cX12_as 25 = .ok (.ireturn, 1) := by decide +kernel
theorem dX12_as_26 : decode cX12_as 26 = .ok (.aload_n 0, 1) := by decide +kernel
theorem dX12_as_27 : decode cX12_as 27 = .ok (.getfield 54, 3) := by decide +kernel
theorem dX12_as_30 : decode cX12_as 30 = .ok (.iload_n 1, 1) := by decide +kernel
theorem dX12_as_31 : decode cX12_as 31 = .ok (.iaload, 1) := by decide +kernel
theorem dX12_as_32 : decode cX12_as 32 = .ok (.iload_n 2, 1) := by decide +kernel
theorem dX12_as_33 : decode cX12_as 33 = .ok (.invokestatic 317, 3) := by decide +kernel
theorem dX12_as_36 : decode cX12_as 36 = .ok (.ifCond .eq 12, 3) := by decide +kernel
theorem dX12_as_39 : decode cX12_as 39 = .ok (.aload_n 0, 1) := by decide +kernel
theorem dX12_as_40 : decode cX12_as 40 = .ok (.getfield 57, 3) := by decide +kernel
theorem dX12_as_43 : decode cX12_as 43 = .ok (.iload_n 1, 1) := by decide +kernel
theorem dX12_as_44 : decode cX12_as 44 = .ok (.iaload, 1) := by decide +kernel
theorem dX12_as_45 : decode cX12_as 45 = .ok (.goto 5, 3) := by decide +kernel
theorem dX12_as_48 : decode cX12_as 48 = .ok (.bipush (-6), 2) := by decide +kernel
theorem dX12_as_50 : decode cX12_as 50 = .ok (.ireturn, 1) := by decide +kernel
theorem dX12_count_0 : decode cX12_count 0 = .ok (.iload_n 1, 1) := by decide +kernel
theorem dX12_count_1 : decode cX12_count 1 = .ok (.tableswitch 87 0 7 #[47, 52, 57, 62, 67, 72, 77, 82], 47) := by decide +kernel
theorem dX12_count_48 : decode cX12_count 48 = .ok (.aload_n 0, 1) := by decide +kernel
theorem dX12_count_49 : decode cX12_count 49 = .ok (.getfield 120, 3) := by decide +kernel
theorem dX12_count_52 : decode cX12_count 52 = .ok (.ireturn, 1) := by decide +kernel
theorem dX12_count_53 : decode cX12_count 53 = .ok (.aload_n 0, 1) := by decide +kernel
theorem dX12_count_54 : decode cX12_count 54 = .ok (.getfield 127, 3) := by decide +kernel
theorem dX12_count_57 : decode cX12_count 57 = .ok (.ireturn, 1) := by decide +kernel
theorem dX12_count_58 : decode cX12_count 58 = .ok (.aload_n 0, 1) := by decide +kernel
theorem dX12_count_59 : decode cX12_count 59 = .ok (.getfield 189, 3) := by decide +kernel
theorem dX12_count_62 : decode cX12_count 62 = .ok (.ireturn, 1) := by decide +kernel
theorem dX12_count_63 : decode cX12_count 63 = .ok (.aload_n 0, 1) := by decide +kernel
theorem dX12_count_64 : decode cX12_count 64 = .ok (.getfield 196, 3) := by decide +kernel
theorem dX12_count_67 : decode cX12_count 67 = .ok (.ireturn, 1) := by decide +kernel
theorem dX12_count_68 : decode cX12_count 68 = .ok (.aload_n 0, 1) := by decide +kernel
theorem dX12_count_69 : decode cX12_count 69 = .ok (.getfield 221, 3) := by decide +kernel
theorem dX12_count_72 : decode cX12_count 72 = .ok (.ireturn, 1) := by decide +kernel
theorem dX12_count_73 : decode cX12_count 73 = .ok (.aload_n 0, 1) := by decide +kernel
theorem dX12_count_74 : decode cX12_count 74 = .ok (.getfield 137, 3) := by decide +kernel
theorem dX12_count_77 : decode cX12_count 77 = .ok (.ireturn, 1) := by decide +kernel
theorem dX12_count_78 : decode cX12_count 78 = .ok (.aload_n 0, 1) := by decide +kernel
theorem dX12_count_79 : decode cX12_count 79 = .ok (.getfield 140, 3) := by decide +kernel
theorem dX12_count_82 : decode cX12_count 82 = .ok (.ireturn, 1) := by decide +kernel
theorem dX12_count_83 : decode cX12_count 83 = .ok (.aload_n 0, 1) := by decide +kernel
theorem dX12_count_84 : decode cX12_count 84 = .ok (.getfield 302, 3) := by decide +kernel
theorem dX12_count_87 : decode cX12_count 87 = .ok (.ireturn, 1) := by decide +kernel
theorem dX12_count_88 : decode cX12_count 88 = .ok (.iconst (-1), 1) := by decide +kernel
theorem dX12_count_89 : decode cX12_count 89 = .ok (.ireturn, 1) := by decide +kernel
