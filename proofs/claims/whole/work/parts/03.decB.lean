theorem dX11_init_0 : decode cX11_init 0 = .ok (.aload_n 0, 1) := by decide +kernel
theorem dX11_init_1 : decode cX11_init 1 = .ok (.invokespecial 1, 3) := by decide +kernel
theorem dX11_init_4 : decode cX11_init 4 = .ok (.aload_n 0, 1) := by decide +kernel
theorem dX11_init_5 : decode cX11_init 5 = .ok (.sipush 900, 3) := by decide +kernel
theorem dX11_init_8 : decode cX11_init 8 = .ok (.newarray .byte, 2) := by decide +kernel
theorem dX11_init_10 : decode cX11_init 10 = .ok (.putfield 9, 3) := by decide +kernel
theorem dX11_init_13 : decode cX11_init 13 = .ok (.aload_n 0, 1) := by decide +kernel
theorem dX11_init_14 : decode cX11_init 14 = .ok (.iconst 4, 1) := by decide +kernel
theorem dX11_init_15 : decode cX11_init 15 = .ok (.anewarray 13, 3) := by decide +kernel
theorem dX11_init_18 : decode cX11_init 18 = .ok (.putfield 15, 3) := by decide +kernel
theorem dX11_init_21 : decode cX11_init 21 = .ok (.aload_n 0, 1) := by decide +kernel
theorem dX11_init_22 : decode cX11_init 22 = .ok (.new 13, 3) := by decide +kernel
theorem dX11_init_25 : decode cX11_init 25 = .ok (.dup, 1) := by decide +kernel
theorem dX11_init_26 : decode cX11_init 26 = .ok (.invokespecial 19, 3) := by decide +kernel
theorem dX11_init_29 : decode cX11_init 29 = .ok (.putfield 20, 3) := by decide +kernel
theorem dX11_init_32 : decode cX11_init 32 = .ok (.aload_n 0, 1) := by decide +kernel
theorem dX11_init_33 : decode cX11_init 33 = .ok (.new 24, 3) := by decide +kernel
theorem dX11_init_36 : decode cX11_init 36 = .ok (.dup, 1) := by decide +kernel
theorem dX11_init_37 : decode cX11_init 37 = .ok (.aload_n 0, 1) := by decide +kernel
theorem dX11_init_38 : decode cX11_init 38 = .ok (.getfield 20, 3) := by decide +kernel
theorem dX11_init_41 : decode cX11_init 41 = .ok (.invokespecial 26, 3) := by decide +kernel
theorem dX11_init_44 : decode cX11_init 44 = .ok (.putfield 29, 3) := by decide +kernel
theorem dX11_init_47 : decode cX11_init 47 = .ok (.aload_n 0, 1) := by decide +kernel
theorem dX11_init_48 : decode cX11_init 48 = .ok (.new 33, 3) := by decide +kernel
theorem dX11_init_51 : decode cX11_init 51 = .ok (.dup, 1) := by decide +kernel
theorem dX11_init_52 : decode cX11_init 52 = .ok (.invokespecial 35, 3) := by decide +kernel
theorem dX11_init_55 : decode cX11_init 55 = .ok (.putfield 36, 3) := by decide +kernel
theorem dX11_init_58 : decode cX11_init 58 = .ok (.aload_n 0, 1) := by decide +kernel
theorem dX11_init_59 : decode cX11_init 59 = .ok (.new 33, 3) := by decide +kernel
theorem dX11_init_62 : decode cX11_init 62 = .ok (.dup, 1) := by decide +kernel
theorem dX11_init_63 : decode cX11_init 63 = .ok (.invokespecial 35, 3) := by decide +kernel
theorem dX11_init_66 : decode cX11_init 66 = .ok (.putfield 40, 3) := by decide +kernel
theorem dX11_init_69 : decode cX11_init 69 = .ok (.aload_n 0, 1) := by decide +kernel
theorem dX11_init_70 : decode cX11_init 70 = .ok (.new 43, 3) := by decide +kernel
theorem dX11_init_73 : decode cX11_init 73 = .ok (.dup, 1) := by decide +kernel
theorem dX11_init_74 : decode cX11_init 74 = .ok (.invokespecial 45, 3) := by decide +kernel
theorem dX11_init_77 : decode cX11_init 77 = .ok (.putfield 46, 3) := by decide +kernel
theorem dX11_init_80 : decode cX11_init 80 = .ok (.aload_n 0, 1) := by decide +kernel
theorem dX11_init_81 : decode cX11_init 81 = .ok (.iconst 4, 1) := by decide +kernel
theorem dX11_init_82 : decode cX11_init 82 = .ok (.anewarray 50, 3) := by decide +kernel
theorem dX11_init_85 : decode cX11_init 85 = .ok (.putfield 52, 3) := by decide +kernel
theorem dX11_init_88 : decode cX11_init 88 = .ok (.aload_n 0, 1) := by decide +kernel
theorem dX11_init_89 : decode cX11_init 89 = .ok (.iconst 2, 1) := by decide +kernel
theorem dX11_init_90 : decode cX11_init 90 = .ok (.anewarray 13, 3) := by decide +kernel
theorem dX11_init_93 : decode cX11_init 93 = .ok (.putfield 56, 3) := by decide +kernel
theorem dX11_init_96 : decode cX11_init 96 = .ok (.aload_n 0, 1) := by decide +kernel
theorem dX11_init_97 : decode cX11_init 97 = .ok (.iconst 2, 1) := by decide +kernel
theorem dX11_init_98 : decode cX11_init 98 = .ok (.anewarray 33, 3) := by decide +kernel
theorem dX11_init_101 : decode cX11_init 101 = .ok (.putfield 59, 3) := by decide +kernel
theorem dX11_init_104 : decode cX11_init 104 = .ok (.aload_n 0, 1) := by decide +kernel
theorem dX11_init_105 : decode cX11_init 105 = .ok (.new 63, 3) := by decide +kernel
theorem dX11_init_108 : decode cX11_init 108 = .ok (.dup, 1) := by decide +kernel
theorem dX11_init_109 : decode cX11_init 109 = .ok (.aload_n 0, 1) := by decide +kernel
theorem dX11_init_110 : decode cX11_init 110 = .ok (.getfield 20, 3) := by decide +kernel
theorem dX11_init_113 : decode cX11_init 113 = .ok (.invokespecial 65, 3) := by decide +kernel
theorem dX11_init_116 : decode cX11_init 116 = .ok (.putfield 66, 3) := by decide +kernel
theorem dX11_init_119 : decode cX11_init 119 = .ok (.aload_n 0, 1) := by decide +kernel
theorem dX11_init_120 : decode cX11_init 120 = .ok (.new 63, 3) := by decide +kernel
theorem dX11_init_123 : decode cX11_init 123 = .ok (.dup, 1) := by decide +kernel
theorem dX11_init_124 : decode cX11_init 124 = .ok (.aload_n 0, 1) := by decide +kernel
theorem dX11_init_125 : decode cX11_init 125 = .ok (.getfield 20, 3) := by decide +kernel
theorem dX11_init_128 : decode cX11_init 128 = .ok (.invokespecial 65, 3) := by decide +kernel
theorem dX11_init_131 : decode cX11_init 131 = .ok (.putfield 70, 3) := by decide +kernel
theorem dX11_init_134 : decode cX11_init 134 = .ok (.aload_n 0, 1) := by decide +kernel
theorem dX11_init_135 : decode cX11_init 135 = .ok (.new 73, 3) := by decide +kernel
theorem dX11_init_138 : decode cX11_init 138 = .ok (.dup, 1) := by decide +kernel
theorem dX11_init_139 : decode cX11_init 139 = .ok (.aload_n 0, 1) := by decide +kernel
theorem dX11_init_140 : decode cX11_init 140 = .ok (.getfield 20, 3) := by decide +kernel
theorem dX11_init_143 : decode cX11_init 143 = .ok (.invokespecial 75, 3) := by decide +kernel
theorem dX11_init_146 : decode cX11_init 146 = .ok (.putfield 76, 3) := by decide +kernel
theorem dX11_init_149 : decode cX11_init 149 = .ok (.aload_n 0, 1) := by decide +kernel
theorem dX11_init_150 : decode cX11_init 150 = .ok (.new 80, 3) := by decide +kernel
theorem dX11_init_153 : decode cX11_init 153 = .ok (.dup, 1) := by decide +kernel
theorem dX11_init_154 : decode cX11_init 154 = .ok (.aload_n 0, 1) := by decide +kernel
theorem dX11_init_155 : decode cX11_init 155 = .ok (.getfield 20, 3) := by decide +kernel
theorem dX11_init_158 : decode cX11_init 158 = .ok (.invokespecial 82, 3) := by decide +kernel
theorem dX11_init_161 : decode cX11_init 161 = .ok (.putfield 83, 3) := by decide +kernel
theorem dX11_init_164 : decode cX11_init 164 = .ok (.aload_n 0, 1) := by decide +kernel
theorem dX11_init_165 : decode cX11_init 165 = .ok (.new 87, 3) := by decide +kernel
theorem dX11_init_168 : decode cX11_init 168 = .ok (.dup, 1) := by decide +kernel
theorem dX11_init_169 : decode cX11_init 169 = .ok (.aload_n 0, 1) := by decide +kernel
theorem dX11_init_170 : decode cX11_init 170 = .ok (.getfield 20, 3) := by decide +kernel
theorem dX11_init_173 : decode cX11_init 173 = .ok (.invokespecial 89, 3) := by decide +kernel
theorem dX11_init_176 : decode cX11_init 176 = .ok (.putfield 90, 3) := by decide +kernel
theorem dX11_init_179 : decode cX11_init 179 = .ok (.aload_n 0, 1) := by decide +kernel
theorem dX11_init_180 : decode cX11_init 180 = .ok (.new 94, 3) := by decide +kernel
theorem dX11_init_183 : decode cX11_init 183 = .ok (.dup, 1) := by decide +kernel
theorem dX11_init_184 : decode cX11_init 184 = .ok (.aload_n 0, 1) := by decide +kernel
theorem dX11_init_185 : decode cX11_init 185 = .ok (.getfield 20, 3) := by decide +kernel
theorem dX11_init_188 : decode cX11_init 188 = .ok (.invokespecial 96, 3) := by decide +kernel
theorem dX11_init_191 : decode cX11_init 191 = .ok (.putfield 97, 3) := by decide +kernel
theorem dX11_init_194 : decode cX11_init 194 = .ok (.aload_n 0, 1) := by decide +kernel
theorem dX11_init_195 : decode cX11_init 195 = .ok (.getfield 15, 3) := by decide +kernel
theorem dX11_init_198 : decode cX11_init 198 = .ok (.iconst 0, 1) := by decide +kernel
theorem dX11_init_199 : decode cX11_init 199 = .ok (.aload_n 0, 1) := by decide +kernel
theorem dX11_init_200 : decode cX11_init 200 = .ok (.getfield 20, 3) := by decide +kernel
theorem dX11_init_203 : decode cX11_init 203 = .ok (.aastore, 1) := by decide +kernel
theorem dX11_init_204 : decode cX11_init 204 = .ok (.iconst 0, 1) := by decide +kernel
theorem dX11_init_205 : decode cX11_init 205 = .ok (.istore_n 1, 1) := by decide +kernel
theorem dX11_init_206 : decode cX11_init 206 = .ok (.iload_n 1, 1) := by decide +kernel
theorem dX11_init_207 : decode cX11_init 207 = .ok (.aload_n 0, 1) := by decide +kernel
theorem dX11_init_208 : decode cX11_init 208 = .ok (.getfield 52, 3) := by decide +kernel
theorem dX11_init_211 : decode cX11_init 211 = .ok (.arraylength, 1) := by decide +kernel
theorem dX11_init_212 : decode cX11_init 212 = .ok (.if_icmp .ge 22, 3) := by decide +kernel
theorem dX11_init_215 : decode cX11_init 215 = .ok (.aload_n 0, 1) := by decide +kernel
theorem dX11_init_216 : decode cX11_init 216 = .ok (.getfield 52, 3) := by decide +kernel
theorem dX11_init_219 : decode cX11_init 219 = .ok (.iload_n 1, 1) := by decide +kernel
theorem dX11_init_220 : decode cX11_init 220 = .ok (.new 50, 3) := by decide +kernel
theorem dX11_init_223 : decode cX11_init 223 = .ok (.dup, 1) := by decide +kernel
theorem dX11_init_224 : decode cX11_init 224 = .ok (.invokespecial 101, 3) := by decide +kernel
theorem dX11_init_227 : decode cX11_init 227 = .ok (.aastore, 1) := by decide +kernel
theorem dX11_init_228 : decode cX11_init 228 = .ok (.iinc 1 1, 3) := by decide +kernel
theorem dX11_init_231 : decode cX11_init 231 = .ok (.goto (-25), 3) := by decide +kernel
theorem dX11_init_234 : decode cX11_init 234 = .ok (.iconst 0, 1) := by decide +kernel
theorem dX11_init_235 : decode cX11_init 235 = .ok (.istore_n 1, 1) := by decide +kernel
theorem dX11_init_236 : decode cX11_init 236 = .ok (.iload_n 1, 1) := by decide +kernel
theorem dX11_init_237 : decode cX11_init 237 = .ok (.aload_n 0, 1) := by decide +kernel
theorem dX11_init_238 : decode cX11_init 238 = .ok (.getfield 59, 3) := by decide +kernel
theorem dX11_init_241 : decode cX11_init 241 = .ok (.arraylength, 1) := by decide +kernel
theorem dX11_init_242 : decode cX11_init 242 = .ok (.if_icmp .ge 22, 3) := by decide +kernel
theorem dX11_init_245 : decode cX11_init 245 = .ok (.aload_n 0, 1) := by decide +kernel
theorem dX11_init_246 : decode cX11_init 246 = .ok (.getfield 59, 3) := by decide +kernel
theorem dX11_init_249 : decode cX11_init 249 = .ok (.iload_n 1, 1) := by decide +kernel
theorem dX11_init_250 : decode cX11_init 250 = .ok (.new 33, 3) := by decide +kernel
theorem dX11_init_253 : decode cX11_init 253 = .ok (.dup, 1) := by decide +kernel
theorem dX11_init_254 : decode cX11_init 254 = .ok (.invokespecial 35, 3) := by decide +kernel
theorem dX11_init_257 : decode cX11_init 257 = .ok (.aastore, 1) := by decide +kernel
theorem dX11_init_258 : decode cX11_init 258 = .ok (.iinc 1 1, 3) := by decide +kernel
theorem dX11_init_261 : decode cX11_init 261 = .ok (.goto (-25), 3) := by decide +kernel
theorem dX11_init_264 : decode cX11_init 264 = .ok (.return_, 1) := by decide +kernel
theorem dX11_feed_0 : decode cX11_feed 0 = .ok (.aload_n 0, 1) := by decide +kernel
theorem dX11_feed_1 : decode cX11_feed 1 = .ok (.getfield 102, 3) := by decide +kernel
theorem dX11_feed_4 : decode cX11_feed 4 = .ok (.bipush 20, 2) := by decide +kernel
theorem dX11_feed_6 : decode cX11_feed 6 = .ok (.iadd, 1) := by decide +kernel
theorem dX11_feed_7 : decode cX11_feed 7 = .ok (.sipush 900, 3) := by decide +kernel
theorem dX11_feed_10 : decode cX11_feed 10 = .ok (.if_icmp .le 6, 3) := by decide +kernel
theorem dX11_feed_13 : decode cX11_feed 13 = .ok (.bipush (-5), 2) := by decide +kernel
theorem dX11_feed_15 : decode cX11_feed 15 = .ok (.ireturn, 1) := by decide +kernel
theorem dX11_feed_16 : decode cX11_feed 16 = .ok (.aload_n 0, 1) := by decide +kernel
theorem dX11_feed_17 : decode cX11_feed 17 = .ok (.iload_n 1, 1) := by decide +kernel
theorem dX11_feed_18 : decode cX11_feed 18 = .ok (.invokevirtual 106, 3) := by decide +kernel
theorem dX11_feed_21 : decode cX11_feed 21 = .ok (.aload_n 0, 1) := by decide +kernel
theorem dX11_feed_22 : decode cX11_feed 22 = .ok (.iload_n 2, 1) := by decide +kernel
theorem dX11_feed_23 : decode cX11_feed 23 = .ok (.invokevirtual 106, 3) := by decide +kernel
theorem dX11_feed_26 : decode cX11_feed 26 = .ok (.aload_n 0, 1) := by decide +kernel
theorem dX11_feed_27 : decode cX11_feed 27 = .ok (.iload_n 3, 1) := by decide +kernel
theorem dX11_feed_28 : decode cX11_feed 28 = .ok (.invokevirtual 106, 3) := by decide +kernel
theorem dX11_feed_31 : decode cX11_feed 31 = .ok (.aload_n 0, 1) := by decide +kernel
theorem dX11_feed_32 : decode cX11_feed 32 = .ok (.iload 4, 2) := by decide +kernel
theorem dX11_feed_34 : decode cX11_feed 34 = .ok (.invokevirtual 106, 3) := by decide +kernel
theorem dX11_feed_37 : decode cX11_feed 37 = .ok (.aload_n 0, 1) := by decide +kernel
theorem dX11_feed_38 : decode cX11_feed 38 = .ok (.iload 5, 2) := by decide +kernel
theorem dX11_feed_40 : decode cX11_feed 40 = .ok (.invokevirtual 106, 3) := by decide +kernel
theorem dX11_feed_43 : decode cX11_feed 43 = .ok (.aload_n 0, 1) := by decide +kernel
theorem dX11_feed_44 : decode cX11_feed 44 = .ok (.getfield 102, 3) := by decide +kernel
theorem dX11_feed_47 : decode cX11_feed 47 = .ok (.ireturn, 1) := by decide +kernel
theorem dX11_tapeInt_0 : decode cX11_tapeInt 0 = .ok (.bipush 24, 2) := by decide +kernel
theorem dX11_tapeInt_2 : decode cX11_tapeInt 2 = .ok (.istore_n 2, 1) := by decide +kernel
theorem dX11_tapeInt_3 : decode cX11_tapeInt 3 = .ok (.iload_n 2, 1) := by decide +kernel
theorem dX11_tapeInt_4 : decode cX11_tapeInt 4 = .ok (.ifCond .lt 42, 3) := by decide +kernel
theorem dX11_tapeInt_7 : decode cX11_tapeInt 7 = .ok (.aload_n 0, 1) := by decide +kernel
theorem dX11_tapeInt_8 : decode cX11_tapeInt 8 = .ok (.getfield 102, 3) := by decide +kernel
theorem dX11_tapeInt_11 : decode cX11_tapeInt 11 = .ok (.sipush 900, 3) := by decide +kernel
theorem dX11_tapeInt_14 : decode cX11_tapeInt 14 = .ok (.if_icmp .ge 32, 3) := by decide +kernel
theorem dX11_tapeInt_17 : decode cX11_tapeInt 17 = .ok (.aload_n 0, 1) := by decide +kernel
theorem dX11_tapeInt_18 : decode cX11_tapeInt 18 = .ok (.getfield 9, 3) := by decide +kernel
theorem dX11_tapeInt_21 : decode cX11_tapeInt 21 = .ok (.aload_n 0, 1) := by decide +kernel
theorem dX11_tapeInt_22 : decode cX11_tapeInt 22 = .ok (.getfield 102, 3) := by decide +kernel
theorem dX11_tapeInt_25 : decode cX11_tapeInt 25 = .ok (.iload_n 1, 1) := by decide +kernel
theorem dX11_tapeInt_26 : decode cX11_tapeInt 26 = .ok (.iload_n 2, 1) := by decide +kernel
theorem dX11_tapeInt_27 : decode cX11_tapeInt 27 = .ok (.ishr, 1) := by decide +kernel
theorem dX11_tapeInt_28 : decode cX11_tapeInt 28 = .ok (.i2b, 1) := by decide +kernel
theorem dX11_tapeInt_29 : decode cX11_tapeInt 29 = .ok (.bastore, 1) := by decide +kernel
theorem dX11_tapeInt_30 : decode cX11_tapeInt 30 = .ok (.aload_n 0, 1) := by decide +kernel
theorem dX11_tapeInt_31 : decode cX11_tapeInt 31 = .ok (.dup, 1) := by decide +kernel
theorem dX11_tapeInt_32 : decode cX11_tapeInt 32 = .ok (.getfield 102, 3) := by decide +kernel
theorem dX11_tapeInt_35 : decode cX11_tapeInt 35 = .ok (.iconst 1, 1) := by decide +kernel
theorem dX11_tapeInt_36 : decode cX11_tapeInt 36 = .ok (.iadd, 1) := by decide +kernel
theorem dX11_tapeInt_37 : decode cX11_tapeInt 37 = .ok (.putfield 102, 3) := by decide +kernel
theorem dX11_tapeInt_40 : decode cX11_tapeInt 40 = .ok (.iinc 2 (-8), 3) := by decide +kernel
theorem dX11_tapeInt_43 : decode cX11_tapeInt 43 = .ok (.goto (-40), 3) := by decide +kernel
theorem dX11_tapeInt_46 : decode cX11_tapeInt 46 = .ok (.return_, 1) := by decide +kernel
theorem dX11_house_0 : decode cX11_house 0 = .ok (.iload_n 1, 1) := by decide +kernel
theorem dX11_house_1 : decode cX11_house 1 = .ok (.ifCond .lt 11, 3) := by decide +kernel
theorem dX11_house_4 : decode cX11_house 4 = .ok (.iload_n 1, 1) := by decide +kernel
theorem dX11_house_5 : decode cX11_house 5 = .ok (.aload_n 0, 1) := by decide +kernel
theorem dX11_house_6 : decode cX11_house 6 = .ok (.getfield 102, 3) := by decide +kernel
theorem dX11_house_9 : decode cX11_house 9 = .ok (.if_icmp .le 6, 3) := by decide +kernel
theorem dX11_house_12 : decode cX11_house 12 = .ok (.bipush (-3), 2) := by decide +kernel
theorem dX11_house_14 : decode cX11_house 14 = .ok (.ireturn, 1) := by decide +kernel
theorem dX11_house_15 : decode cX11_house 15 = .ok (.aload_n 0, 1) := by decide +kernel
theorem dX11_house_16 : decode cX11_house 16 = .ok (.iconst 0, 1) := by decide +kernel
theorem dX11_house_17 : decode cX11_house 17 = .ok (.putfield 102, 3) := by decide +kernel
theorem dX11_house_20 : decode cX11_house 20 = .ok (.aload_n 0, 1) := by decide +kernel
theorem dX11_house_21 : decode cX11_house 21 = .ok (.getfield 66, 3) := by decide +kernel
theorem dX11_house_24 : decode cX11_house 24 = .ok (.invokevirtual 110, 3) := by decide +kernel
theorem dX11_house_27 : decode cX11_house 27 = .ok (.aload_n 0, 1) := by decide +kernel
theorem dX11_house_28 : decode cX11_house 28 = .ok (.getfield 70, 3) := by decide +kernel
theorem dX11_house_31 : decode cX11_house 31 = .ok (.invokevirtual 110, 3) := by decide +kernel
theorem dX11_house_34 : decode cX11_house 34 = .ok (.aload_n 0, 1) := by decide +kernel
theorem dX11_house_35 : decode cX11_house 35 = .ok (.invokevirtual 113, 3) := by decide +kernel
theorem dX11_house_38 : decode cX11_house 38 = .ok (.astore_n 2, 1) := by decide +kernel
theorem dX11_house_39 : decode cX11_house 39 = .ok (.aload_n 0, 1) := by decide +kernel
theorem dX11_house_40 : decode cX11_house 40 = .ok (.getfield 29, 3) := by decide +kernel
theorem dX11_house_43 : decode cX11_house 43 = .ok (.aload_n 0, 1) := by decide +kernel
theorem dX11_house_44 : decode cX11_house 44 = .ok (.getfield 9, 3) := by decide +kernel
theorem dX11_house_47 : decode cX11_house 47 = .ok (.iload_n 1, 1) := by decide +kernel
theorem dX11_house_48 : decode cX11_house 48 = .ok (.aload_n 2, 1) := by decide +kernel
theorem dX11_house_49 : decode cX11_house 49 = .ok (.invokevirtual 117, 3) := by decide +kernel
theorem dX11_house_52 : decode cX11_house 52 = .ok (.ifCond .ne 14, 3) := by decide +kernel
theorem dX11_house_55 : decode cX11_house 55 = .ok (.bipush (-30), 2) := by decide +kernel
theorem dX11_house_57 : decode cX11_house 57 = .ok (.aload_n 0, 1) := by decide +kernel
theorem dX11_house_58 : decode cX11_house 58 = .ok (.getfield 29, 3) := by decide +kernel
theorem dX11_house_61 : decode cX11_house 61 = .ok (.getfield 121, 3) := by decide +kernel
theorem dX11_house_64 : decode cX11_house 64 = .ok (.isub, 1) := by decide +kernel
theorem dX11_house_65 : decode cX11_house 65 = .ok (.ireturn, 1) := by decide +kernel
theorem dX11_house_66 : decode cX11_house 66 = .ok (.aload_n 0, 1) := by decide +kernel
theorem dX11_house_67 : decode cX11_house 67 = .ok (.aload_n 2, 1) := by decide +kernel
theorem dX11_house_68 : decode cX11_house 68 = .ok (.putfield 20, 3) := by decide +kernel
theorem dX11_house_71 : decode cX11_house 71 = .ok (.aload_n 0, 1) := by decide +kernel
theorem dX11_house_72 : decode cX11_house 72 = .ok (.getfield 36, 3) := by decide +kernel
theorem dX11_house_75 : decode cX11_house 75 = .ok (.aload_n 2, 1) := by decide +kernel
theorem dX11_house_76 : decode cX11_house 76 = .ok (.getfield 124, 3) := by decide +kernel
theorem dX11_house_79 : decode cX11_house 79 = .ok (.putfield 127, 3) := by decide +kernel
theorem dX11_house_82 : decode cX11_house 82 = .ok (.aload_n 0, 1) := by decide +kernel
theorem dX11_house_83 : decode cX11_house 83 = .ok (.getfield 36, 3) := by decide +kernel
theorem dX11_house_86 : decode cX11_house 86 = .ok (.aload_n 2, 1) := by decide +kernel
theorem dX11_house_87 : decode cX11_house 87 = .ok (.getfield 130, 3) := by decide +kernel
theorem dX11_house_90 : decode cX11_house 90 = .ok (.putfield 133, 3) := by decide +kernel
theorem dX11_house_93 : decode cX11_house 93 = .ok (.aload_n 0, 1) := by decide +kernel
theorem dX11_house_94 : decode cX11_house 94 = .ok (.getfield 46, 3) := by decide +kernel
theorem dX11_house_97 : decode cX11_house 97 = .ok (.invokevirtual 136, 3) := by decide +kernel
theorem dX11_house_100 : decode cX11_house 100 = .ok (.aload_n 0, 1) := by decide +kernel
theorem dX11_house_101 : decode cX11_house 101 = .ok (.getfield 20, 3) := by decide +kernel
theorem dX11_house_104 : decode cX11_house 104 = .ok (.getfield 139, 3) := by decide +kernel
theorem dX11_house_107 : decode cX11_house 107 = .ok (.ireturn, 1) := by decide +kernel
theorem dX11_spareHouse_0 : decode cX11_spareHouse 0 = .ok (.iconst 0, 1) := by decide +kernel
theorem dX11_spareHouse_1 : decode cX11_spareHouse 1 = .ok (.istore_n 1, 1) := by decide +kernel
theorem dX11_spareHouse_2 : decode cX11_spareHouse 2 = .ok (.iload_n 1, 1) := by decide +kernel
theorem dX11_spareHouse_3 : decode cX11_spareHouse 3 = .ok (.aload_n 0, 1) := by decide +kernel
theorem dX11_spareHouse_4 : decode cX11_spareHouse 4 = .ok (.getfield 15, 3) := by decide +kernel
theorem dX11_spareHouse_7 : decode cX11_spareHouse 7 = .ok (.arraylength, 1) := by decide +kernel
theorem dX11_spareHouse_8 : decode cX11_spareHouse 8 = .ok (.if_icmp .ge 51, 3) := by decide +kernel
theorem dX11_spareHouse_11 : decode cX11_spareHouse 11 = .ok (.aload_n 0, 1) := by decide +kernel
theorem dX11_spareHouse_12 : decode cX11_spareHouse 12 = .ok (.getfield 15, 3) := by decide +kernel
theorem dX11_spareHouse_15 : decode cX11_spareHouse 15 = .ok (.iload_n 1, 1) := by decide +kernel
theorem dX11_spareHouse_16 : decode cX11_spareHouse 16 = .ok (.aaload, 1) := by decide +kernel
theorem dX11_spareHouse_17 : decode cX11_spareHouse 17 = .ok (.ifnonnull 16, 3) := by decide +kernel
theorem dX11_spareHouse_20 : decode cX11_spareHouse 20 = .ok (.aload_n 0, 1) := by decide +kernel
theorem dX11_spareHouse_21 : decode cX11_spareHouse 21 = .ok (.getfield 15, 3) := by decide +kernel
theorem dX11_spareHouse_24 : decode cX11_spareHouse 24 = .ok (.iload_n 1, 1) := by decide +kernel
theorem dX11_spareHouse_25 : decode cX11_spareHouse 25 = .ok (.new 13, 3) := by decide +kernel
theorem dX11_spareHouse_28 : decode cX11_spareHouse 28 = .ok (.dup, 1) := by decide +kernel
theorem dX11_spareHouse_29 : decode cX11_spareHouse 29 = .ok (.invokespecial 19, 3) := by decide +kernel
theorem dX11_spareHouse_32 : decode cX11_spareHouse 32 = .ok (.aastore, 1) := by decide +kernel
theorem dX11_spareHouse_33 : decode cX11_spareHouse 33 = .ok (.aload_n 0, 1) := by decide +kernel
theorem dX11_spareHouse_34 : decode cX11_spareHouse 34 = .ok (.aload_n 0, 1) := by decide +kernel
theorem dX11_spareHouse_35 : decode cX11_spareHouse 35 = .ok (.getfield 15, 3) := by decide +kernel
theorem dX11_spareHouse_38 : decode cX11_spareHouse 38 = .ok (.iload_n 1, 1) := by decide +kernel
theorem dX11_spareHouse_39 : decode cX11_spareHouse 39 = .ok (.aaload, 1) := by decide +kernel
theorem dX11_spareHouse_40 : decode cX11_spareHouse 40 = .ok (.invokevirtual 142, 3) := by decide +kernel
theorem dX11_spareHouse_43 : decode cX11_spareHouse 43 = .ok (.ifCond .ne 10, 3) := by decide +kernel
theorem dX11_spareHouse_46 : decode cX11_spareHouse 46 = .ok (.aload_n 0, 1) := by decide +kernel
theorem dX11_spareHouse_47 : decode cX11_spareHouse 47 = .ok (.getfield 15, 3) := by decide +kernel
theorem dX11_spareHouse_50 : decode cX11_spareHouse 50 = .ok (.iload_n 1, 1) := by decide +kernel
theorem dX11_spareHouse_51 : decode cX11_spareHouse 51 = .ok (.aaload, 1) := by decide +kernel
theorem dX11_spareHouse_52 : decode cX11_spareHouse 52 = .ok (.areturn, 1) := by decide +kernel
theorem dX11_spareHouse_53 : decode cX11_spareHouse 53 = .ok (.iinc 1 1, 3) := by decide +kernel
theorem dX11_spareHouse_56 : decode cX11_spareHouse 56 = .ok (.goto (-54), 3) := by decide +kernel
theorem dX11_spareHouse_59 : decode cX11_spareHouse 59 = .ok (.new 13, 3) := by decide +kernel
theorem dX11_spareHouse_62 : decode cX11_spareHouse 62 = .ok (.dup, 1) := by decide +kernel
theorem dX11_spareHouse_63 : decode cX11_spareHouse 63 = .ok (.invokespecial 19, 3) := by decide +kernel
theorem dX11_spareHouse_66 : decode cX11_spareHouse 66 = .ok (.areturn, 1) := by decide +kernel
theorem dX11_isInUse_0 : decode cX11_isInUse 0 = .ok (.iconst 0, 1) := by decide +kernel
theorem dX11_isInUse_1 : decode cX11_isInUse 1 = .ok (.istore_n 2, 1) := by decide +kernel
theorem dX11_isInUse_2 : decode cX11_isInUse 2 = .ok (.iload_n 2, 1) := by decide +kernel
theorem dX11_isInUse_3 : decode cX11_isInUse 3 = .ok (.aload_n 0, 1) := by decide +kernel
theorem dX11_isInUse_4 : decode cX11_isInUse 4 = .ok (.getfield 56, 3) := by decide +kernel
theorem dX11_isInUse_7 : decode cX11_isInUse 7 = .ok (.arraylength, 1) := by decide +kernel
theorem dX11_isInUse_8 : decode cX11_isInUse 8 = .ok (.if_icmp .ge 21, 3) := by decide +kernel
theorem dX11_isInUse_11 : decode cX11_isInUse 11 = .ok (.aload_n 0, 1) := by decide +kernel
theorem dX11_isInUse_12 : decode cX11_isInUse 12 = .ok (.getfield 56, 3) := by decide +kernel
theorem dX11_isInUse_15 : decode cX11_isInUse 15 = .ok (.iload_n 2, 1) := by decide +kernel
theorem dX11_isInUse_16 : decode cX11_isInUse 16 = .ok (.aaload, 1) := by decide +kernel
theorem dX11_isInUse_17 : decode cX11_isInUse 17 = .ok (.aload_n 1, 1) := by decide +kernel
theorem dX11_isInUse_18 : decode cX11_isInUse 18 = .ok (.if_acmp .ne 5, 3) := by decide +kernel
theorem dX11_isInUse_21 : decode cX11_isInUse 21 = .ok (.iconst 1, 1) := by decide +kernel
theorem dX11_isInUse_22 : decode cX11_isInUse 22 = .ok (.ireturn, 1) := by decide +kernel
theorem dX11_isInUse_23 : decode cX11_isInUse 23 = .ok (.iinc 2 1, 3) := by decide +kernel
theorem dX11_isInUse_26 : decode cX11_isInUse 26 = .ok (.goto (-24), 3) := by decide +kernel
theorem dX11_isInUse_29 : decode cX11_isInUse 29 = .ok (.aload_n 0, 1) := by decide +kernel
theorem dX11_isInUse_30 : decode cX11_isInUse 30 = .ok (.getfield 20, 3) := by decide +kernel
theorem dX11_isInUse_33 : decode cX11_isInUse 33 = .ok (.aload_n 1, 1) := by decide +kernel
theorem dX11_isInUse_34 : decode cX11_isInUse 34 = .ok (.if_acmp .ne 7, 3) := by decide +kernel
theorem dX11_isInUse_37 : decode cX11_isInUse 37 = .ok (.iconst 1, 1) := by decide +kernel
theorem dX11_isInUse_38 : decode cX11_isInUse 38 = .ok (.goto 4, 3) := by decide +kernel
theorem dX11_isInUse_41 : decode cX11_isInUse 41 = .ok (.iconst 0, 1) := by decide +kernel
theorem dX11_isInUse_42 : decode cX11_isInUse 42 = .ok (.ireturn, 1) := by decide +kernel
theorem dX11_fault_0 : decode cX11_fault 0 = .ok (.iload_n 1, 1) := by decide +kernel
theorem dX11_fault_1 : decode cX11_fault 1 = .ok (.ifCond .ne 11, 3) := by decide +kernel
theorem dX11_fault_4 : decode cX11_fault 4 = .ok (.aload_n 0, 1) := by decide +kernel
theorem dX11_fault_5 : decode cX11_fault 5 = .ok (.getfield 29, 3) := by decide +kernel
theorem dX11_fault_8 : decode cX11_fault 8 = .ok (.getfield 121, 3) := by decide +kernel
theorem dX11_fault_11 : decode cX11_fault 11 = .ok (.ireturn, 1) := by decide +kernel
theorem dX11_fault_12 : decode cX11_fault 12 = .ok (.iload_n 1, 1) := by decide +kernel
theorem dX11_fault_13 : decode cX11_fault 13 = .ok (.iconst 1, 1) := by decide +kernel
theorem dX11_fault_14 : decode cX11_fault 14 = .ok (.if_icmp .ne 13, 3) := by decide +kernel
theorem dX11_fault_17 : decode cX11_fault 17 = .ok (.aload_n 0, 1) := by decide +kernel
theorem dX11_fault_18 : decode cX11_fault 18 = .ok (.getfield 29, 3) := by decide +kernel
theorem dX11_fault_21 : decode cX11_fault 21 = .ok (.getfield 146, 3) := by decide +kernel
theorem dX11_fault_24 : decode cX11_fault 24 = .ok (.goto 4, 3) := by decide +kernel
theorem dX11_fault_27 : decode cX11_fault 27 = .ok (.iconst (-1), 1) := by decide +kernel
theorem dX11_fault_28 : decode cX11_fault 28 = .ok (.ireturn, 1) := by decide +kernel
theorem dX11_age_0 : decode cX11_age 0 = .ok (.aload_n 0, 1) := by decide +kernel
theorem dX11_age_1 : decode cX11_age 1 = .ok (.iload_n 1, 1) := by decide +kernel
theorem dX11_age_2 : decode cX11_age 2 = .ok (.invokevirtual 149, 3) := by decide +kernel
theorem dX11_age_5 : decode cX11_age 5 = .ok (.ifCond .ne 11, 3) := by decide +kernel
theorem dX11_age_8 : decode cX11_age 8 = .ok (.aload_n 0, 1) := by decide +kernel
theorem dX11_age_9 : decode cX11_age 9 = .ok (.iload_n 2, 1) := by decide +kernel
theorem dX11_age_10 : decode cX11_age 10 = .ok (.invokevirtual 153, 3) := by decide +kernel
theorem dX11_age_13 : decode cX11_age 13 = .ok (.ifCond .eq 6, 3) := by decide +kernel
theorem dX11_age_16 : decode cX11_age 16 = .ok (.bipush (-2), 2) := by decide +kernel
theorem dX11_age_18 : decode cX11_age 18 = .ok (.ireturn, 1) := by decide +kernel
theorem dX11_age_19 : decode cX11_age 19 = .ok (.aload_n 0, 1) := by decide +kernel
theorem dX11_age_20 : decode cX11_age 20 = .ok (.getfield 36, 3) := by decide +kernel
theorem dX11_age_23 : decode cX11_age 23 = .ok (.getfield 127, 3) := by decide +kernel
theorem dX11_age_26 : decode cX11_age 26 = .ok (.iload_n 1, 1) := by decide +kernel
theorem dX11_age_27 : decode cX11_age 27 = .ok (.iload_n 2, 1) := by decide +kernel
theorem dX11_age_28 : decode cX11_age 28 = .ok (.invokestatic 156, 3) := by decide +kernel
theorem dX11_age_31 : decode cX11_age 31 = .ok (.ireturn, 1) := by decide +kernel
theorem dX11_doing_0 : decode cX11_doing 0 = .ok (.aload_n 0, 1) := by decide +kernel
theorem dX11_doing_1 : decode cX11_doing 1 = .ok (.iload_n 1, 1) := by decide +kernel
theorem dX11_doing_2 : decode cX11_doing 2 = .ok (.invokevirtual 160, 3) := by decide +kernel
theorem dX11_doing_5 : decode cX11_doing 5 = .ok (.ifCond .eq 6, 3) := by decide +kernel
theorem dX11_doing_8 : decode cX11_doing 8 = .ok (.bipush (-2), 2) := by decide +kernel
theorem dX11_doing_10 : decode cX11_doing 10 = .ok (.ireturn, 1) := by decide +kernel
theorem dX11_doing_11 : decode cX11_doing 11 = .ok (.iload_n 2, 1) := by decide +kernel
theorem dX11_doing_12 : decode cX11_doing 12 = .ok (.ifCond .ne 12, 3) := by decide +kernel
theorem dX11_doing_15 : decode cX11_doing 15 = .ok (.aload_n 0, 1) := by decide +kernel
theorem dX11_doing_16 : decode cX11_doing 16 = .ok (.getfield 20, 3) := by decide +kernel
theorem dX11_doing_19 : decode cX11_doing 19 = .ok (.iload_n 1, 1) := by decide +kernel
theorem dX11_doing_20 : decode cX11_doing 20 = .ok (.invokevirtual 163, 3) := by decide +kernel
theorem dX11_doing_23 : decode cX11_doing 23 = .ok (.ireturn, 1) := by decide +kernel
theorem dX11_doing_24 : decode cX11_doing 24 = .ok (.iload_n 2, 1) := by decide +kernel
theorem dX11_doing_25 : decode cX11_doing 25 = .ok (.iconst 1, 1) := by decide +kernel
theorem dX11_doing_26 : decode cX11_doing 26 = .ok (.if_icmp .ne 12, 3) := by decide +kernel
theorem dX11_doing_29 : decode cX11_doing 29 = .ok (.aload_n 0, 1) := by decide +kernel
theorem dX11_doing_30 : decode cX11_doing 30 = .ok (.getfield 20, 3) := by decide +kernel
theorem dX11_doing_33 : decode cX11_doing 33 = .ok (.iload_n 1, 1) := by decide +kernel
theorem dX11_doing_34 : decode cX11_doing 34 = .ok (.invokevirtual 167, 3) := by decide +kernel
theorem dX11_doing_37 : decode cX11_doing 37 = .ok (.ireturn, 1) := by decide +kernel
theorem dX11_doing_38 : decode cX11_doing 38 = .ok (.iload_n 2, 1) := by decide +kernel
theorem dX11_doing_39 : decode cX11_doing 39 = .ok (.iconst 2, 1) := by decide +kernel
theorem dX11_doing_40 : decode cX11_doing 40 = .ok (.if_icmp .ne 45, 3) := by decide +kernel
theorem dX11_doing_43 : decode cX11_doing 43 = .ok (.aload_n 0, 1) := by decide +kernel
theorem dX11_doing_44 : decode cX11_doing 44 = .ok (.getfield 20, 3) := by decide +kernel
theorem dX11_doing_47 : decode cX11_doing 47 = .ok (.aload_n 0, 1) := by decide +kernel
theorem dX11_doing_48 : decode cX11_doing 48 = .ok (.getfield 36, 3) := by decide +kernel
theorem dX11_doing_51 : decode cX11_doing 51 = .ok (.getfield 127, 3) := by decide +kernel
theorem dX11_doing_54 : decode cX11_doing 54 = .ok (.iconst 0, 1) := by decide +kernel
theorem dX11_doing_55 : decode cX11_doing 55 = .ok (.invokevirtual 170, 3) := by decide +kernel
theorem dX11_doing_58 : decode cX11_doing 58 = .ok (.iload_n 1, 1) := by decide +kernel
theorem dX11_doing_59 : decode cX11_doing 59 = .ok (.ishr, 1) := by decide +kernel
theorem dX11_doing_60 : decode cX11_doing 60 = .ok (.iconst 1, 1) := by decide +kernel
theorem dX11_doing_61 : decode cX11_doing 61 = .ok (.iand, 1) := by decide +kernel
theorem dX11_doing_62 : decode cX11_doing 62 = .ok (.aload_n 0, 1) := by decide +kernel
theorem dX11_doing_63 : decode cX11_doing 63 = .ok (.getfield 20, 3) := by decide +kernel
theorem dX11_doing_66 : decode cX11_doing 66 = .ok (.aload_n 0, 1) := by decide +kernel
theorem dX11_doing_67 : decode cX11_doing 67 = .ok (.getfield 36, 3) := by decide +kernel
theorem dX11_doing_70 : decode cX11_doing 70 = .ok (.getfield 127, 3) := by decide +kernel
theorem dX11_doing_73 : decode cX11_doing 73 = .ok (.iconst 1, 1) := by decide +kernel
theorem dX11_doing_74 : decode cX11_doing 74 = .ok (.invokevirtual 170, 3) := by decide +kernel
theorem dX11_doing_77 : decode cX11_doing 77 = .ok (.iload_n 1, 1) := by decide +kernel
theorem dX11_doing_78 : decode cX11_doing 78 = .ok (.ishr, 1) := by decide +kernel
theorem dX11_doing_79 : decode cX11_doing 79 = .ok (.iconst 1, 1) := by decide +kernel
theorem dX11_doing_80 : decode cX11_doing 80 = .ok (.iand, 1) := by decide +kernel
theorem dX11_doing_81 : decode cX11_doing 81 = .ok (.iconst 1, 1) := by decide +kernel
theorem dX11_doing_82 : decode cX11_doing 82 = .ok (.ishl, 1) := by decide +kernel
theorem dX11_doing_83 : decode cX11_doing 83 = .ok (.ior, 1) := by decide +kernel
theorem dX11_doing_84 : decode cX11_doing 84 = .ok (.ireturn, 1) := by decide +kernel
theorem dX11_doing_85 : decode cX11_doing 85 = .ok (.iload_n 2, 1) := by decide +kernel
theorem dX11_doing_86 : decode cX11_doing 86 = .ok (.bipush 10, 2) := by decide +kernel
theorem dX11_doing_88 : decode cX11_doing 88 = .ok (.if_icmp .lt 14, 3) := by decide +kernel
theorem dX11_doing_91 : decode cX11_doing 91 = .ok (.aload_n 0, 1) := by decide +kernel
theorem dX11_doing_92 : decode cX11_doing 92 = .ok (.iload_n 2, 1) := by decide +kernel
theorem dX11_doing_93 : decode cX11_doing 93 = .ok (.bipush 10, 2) := by decide +kernel
theorem dX11_doing_95 : decode cX11_doing 95 = .ok (.isub, 1) := by decide +kernel
theorem dX11_doing_96 : decode cX11_doing 96 = .ok (.invokevirtual 153, 3) := by decide +kernel
theorem dX11_doing_99 : decode cX11_doing 99 = .ok (.ifCond .eq 6, 3) := by decide +kernel
theorem dX11_doing_102 : decode cX11_doing 102 = .ok (.bipush (-2), 2) := by decide +kernel
theorem dX11_doing_104 : decode cX11_doing 104 = .ok (.ireturn, 1) := by decide +kernel
theorem dX11_doing_105 : decode cX11_doing 105 = .ok (.aload_n 0, 1) := by decide +kernel
theorem dX11_doing_106 : decode cX11_doing 106 = .ok (.getfield 20, 3) := by decide +kernel
theorem dX11_doing_109 : decode cX11_doing 109 = .ok (.iload_n 1, 1) := by decide +kernel
theorem dX11_doing_110 : decode cX11_doing 110 = .ok (.iload_n 2, 1) := by decide +kernel
theorem dX11_doing_111 : decode cX11_doing 111 = .ok (.bipush 10, 2) := by decide +kernel
theorem dX11_doing_113 : decode cX11_doing 113 = .ok (.isub, 1) := by decide +kernel
theorem dX11_doing_114 : decode cX11_doing 114 = .ok (.invokevirtual 174, 3) := by decide +kernel
theorem dX11_doing_117 : decode cX11_doing 117 = .ok (.ireturn, 1) := by decide +kernel
theorem dX11_does_0 : decode cX11_does 0 = .ok (.aload_n 0, 1) := by decide +kernel
theorem dX11_does_1 : decode cX11_does 1 = .ok (.iload_n 1, 1) := by decide +kernel
theorem dX11_does_2 : decode cX11_does 2 = .ok (.invokevirtual 149, 3) := by decide +kernel
theorem dX11_does_5 : decode cX11_does 5 = .ok (.ifCond .eq 8, 3) := by decide +kernel
theorem dX11_does_8 : decode cX11_does 8 = .ok (.bipush (-2), 2) := by decide +kernel
theorem dX11_does_10 : decode cX11_does 10 = .ok (.goto 18, 3) := by decide +kernel
theorem dX11_does_13 : decode cX11_does 13 = .ok (.aload_n 0, 1) := by decide +kernel
theorem dX11_does_14 : decode cX11_does 14 = .ok (.getfield 20, 3) := by decide +kernel
theorem dX11_does_17 : decode cX11_does 17 = .ok (.aload_n 0, 1) := by decide +kernel
theorem dX11_does_18 : decode cX11_does 18 = .ok (.getfield 36, 3) := by decide +kernel
theorem dX11_does_21 : decode cX11_does 21 = .ok (.getfield 127, 3) := by decide +kernel
theorem dX11_does_24 : decode cX11_does 24 = .ok (.iload_n 1, 1) := by decide +kernel
theorem dX11_does_25 : decode cX11_does 25 = .ok (.invokevirtual 170, 3) := by decide +kernel
theorem dX11_does_28 : decode cX11_does 28 = .ok (.ireturn, 1) := by decide +kernel
theorem dX11_brings_0 : decode cX11_brings 0 = .ok (.aload_n 0, 1) := by decide +kernel
theorem dX11_brings_1 : decode cX11_brings 1 = .ok (.iload_n 1, 1) := by decide +kernel
theorem dX11_brings_2 : decode cX11_brings 2 = .ok (.invokevirtual 149, 3) := by decide +kernel
theorem dX11_brings_5 : decode cX11_brings 5 = .ok (.ifCond .ne 19, 3) := by decide +kernel
theorem dX11_brings_8 : decode cX11_brings 8 = .ok (.aload_n 0, 1) := by decide +kernel
theorem dX11_brings_9 : decode cX11_brings 9 = .ok (.iload_n 2, 1) := by decide +kernel
theorem dX11_brings_10 : decode cX11_brings 10 = .ok (.invokevirtual 153, 3) := by decide +kernel
theorem dX11_brings_13 : decode cX11_brings 13 = .ok (.ifCond .ne 11, 3) := by decide +kernel
theorem dX11_brings_16 : decode cX11_brings 16 = .ok (.aload_n 0, 1) := by decide +kernel
theorem dX11_brings_17 : decode cX11_brings 17 = .ok (.iload_n 3, 1) := by decide +kernel
theorem dX11_brings_18 : decode cX11_brings 18 = .ok (.invokevirtual 149, 3) := by decide +kernel
theorem dX11_brings_21 : decode cX11_brings 21 = .ok (.ifCond .eq 6, 3) := by decide +kernel
theorem dX11_brings_24 : decode cX11_brings 24 = .ok (.bipush (-2), 2) := by decide +kernel
theorem dX11_brings_26 : decode cX11_brings 26 = .ok (.ireturn, 1) := by decide +kernel
theorem dX11_brings_27 : decode cX11_brings 27 = .ok (.aload_n 0, 1) := by decide +kernel
theorem dX11_brings_28 : decode cX11_brings 28 = .ok (.getfield 20, 3) := by decide +kernel
theorem dX11_brings_31 : decode cX11_brings 31 = .ok (.aload_n 0, 1) := by decide +kernel
theorem dX11_brings_32 : decode cX11_brings 32 = .ok (.getfield 36, 3) := by decide +kernel
theorem dX11_brings_35 : decode cX11_brings 35 = .ok (.getfield 127, 3) := by decide +kernel
theorem dX11_brings_38 : decode cX11_brings 38 = .ok (.aload_n 0, 1) := by decide +kernel
theorem dX11_brings_39 : decode cX11_brings 39 = .ok (.getfield 36, 3) := by decide +kernel
theorem dX11_brings_42 : decode cX11_brings 42 = .ok (.getfield 133, 3) := by decide +kernel
theorem dX11_brings_45 : decode cX11_brings 45 = .ok (.iload_n 1, 1) := by decide +kernel
theorem dX11_brings_46 : decode cX11_brings 46 = .ok (.iload_n 2, 1) := by decide +kernel
theorem dX11_brings_47 : decode cX11_brings 47 = .ok (.invokevirtual 177, 3) := by decide +kernel
theorem dX11_brings_50 : decode cX11_brings 50 = .ok (.istore 4, 2) := by decide +kernel
theorem dX11_brings_52 : decode cX11_brings 52 = .ok (.iload 4, 2) := by decide +kernel
theorem dX11_brings_54 : decode cX11_brings 54 = .ok (.ifCond .ge 8, 3) := by decide +kernel
theorem dX11_brings_57 : decode cX11_brings 57 = .ok (.bipush (-5), 2) := by decide +kernel
theorem dX11_brings_59 : decode cX11_brings 59 = .ok (.goto 10, 3) := by decide +kernel
theorem dX11_brings_62 : decode cX11_brings 62 = .ok (.iload 4, 2) := by decide +kernel
theorem dX11_brings_64 : decode cX11_brings 64 = .ok (.iload_n 3, 1) := by decide +kernel
theorem dX11_brings_65 : decode cX11_brings 65 = .ok (.iload_n 2, 1) := by decide +kernel
theorem dX11_brings_66 : decode cX11_brings 66 = .ok (.invokestatic 156, 3) := by decide +kernel
theorem dX11_brings_69 : decode cX11_brings 69 = .ok (.ireturn, 1) := by decide +kernel
theorem dX11_noTwin_0 : decode cX11_noTwin 0 = .ok (.iload_n 1, 1) := by decide +kernel
theorem dX11_noTwin_1 : decode cX11_noTwin 1 = .ok (.ifCond .lt 8, 3) := by decide +kernel
theorem dX11_noTwin_4 : decode cX11_noTwin 4 = .ok (.iload_n 1, 1) := by decide +kernel
theorem dX11_noTwin_5 : decode cX11_noTwin 5 = .ok (.iconst 2, 1) := by decide +kernel
theorem dX11_noTwin_6 : decode cX11_noTwin 6 = .ok (.if_icmp .lt 7, 3) := by decide +kernel
theorem dX11_noTwin_9 : decode cX11_noTwin 9 = .ok (.iconst 1, 1) := by decide +kernel
theorem dX11_noTwin_10 : decode cX11_noTwin 10 = .ok (.goto 4, 3) := by decide +kernel
theorem dX11_noTwin_13 : decode cX11_noTwin 13 = .ok (.iconst 0, 1) := by decide +kernel
theorem dX11_noTwin_14 : decode cX11_noTwin 14 = .ok (.ireturn, 1) := by decide +kernel
theorem dX11_noFact_0 : decode cX11_noFact 0 = .ok (.iload_n 1, 1) := by decide +kernel
theorem dX11_noFact_1 : decode cX11_noFact 1 = .ok (.ifCond .lt 14, 3) := by decide +kernel
theorem dX11_noFact_4 : decode cX11_noFact 4 = .ok (.iload_n 1, 1) := by decide +kernel
theorem dX11_noFact_5 : decode cX11_noFact 5 = .ok (.aload_n 0, 1) := by decide +kernel
theorem dX11_noFact_6 : decode cX11_noFact 6 = .ok (.getfield 20, 3) := by decide +kernel
theorem dX11_noFact_9 : decode cX11_noFact 9 = .ok (.getfield 181, 3) := by decide +kernel
theorem dX11_noFact_12 : decode cX11_noFact 12 = .ok (.if_icmp .lt 7, 3) := by decide +kernel
theorem dX11_noFact_15 : decode cX11_noFact 15 = .ok (.iconst 1, 1) := by decide +kernel
theorem dX11_noFact_16 : decode cX11_noFact 16 = .ok (.goto 4, 3) := by decide +kernel
theorem dX11_noFact_19 : decode cX11_noFact 19 = .ok (.iconst 0, 1) := by decide +kernel
theorem dX11_noFact_20 : decode cX11_noFact 20 = .ok (.ireturn, 1) := by decide +kernel
theorem dX11_noDoing_0 : decode cX11_noDoing 0 = .ok (.iload_n 1, 1) := by decide +kernel
theorem dX11_noDoing_1 : decode cX11_noDoing 1 = .ok (.ifCond .lt 14, 3) := by decide +kernel
theorem dX11_noDoing_4 : decode cX11_noDoing 4 = .ok (.iload_n 1, 1) := by decide +kernel
theorem dX11_noDoing_5 : decode cX11_noDoing 5 = .ok (.aload_n 0, 1) := by decide +kernel
theorem dX11_noDoing_6 : decode cX11_noDoing 6 = .ok (.getfield 20, 3) := by decide +kernel
theorem dX11_noDoing_9 : decode cX11_noDoing 9 = .ok (.getfield 184, 3) := by decide +kernel
theorem dX11_noDoing_12 : decode cX11_noDoing 12 = .ok (.if_icmp .lt 7, 3) := by decide +kernel
theorem dX11_noDoing_15 : decode cX11_noDoing 15 = .ok (.iconst 1, 1) := by decide +kernel
theorem dX11_noDoing_16 : decode cX11_noDoing 16 = .ok (.goto 4, 3) := by decide +kernel
theorem dX11_noDoing_19 : decode cX11_noDoing 19 = .ok (.iconst 0, 1) := by decide +kernel
theorem dX11_noDoing_20 : decode cX11_noDoing 20 = .ok (.ireturn, 1) := by decide +kernel
theorem dX11_noTray_0 : decode cX11_noTray 0 = .ok (.iload_n 1, 1) := by decide +kernel
theorem dX11_noTray_1 : decode cX11_noTray 1 = .ok (.ifCond .lt 12, 3) := by decide +kernel
theorem dX11_noTray_4 : decode cX11_noTray 4 = .ok (.iload_n 1, 1) := by decide +kernel
theorem dX11_noTray_5 : decode cX11_noTray 5 = .ok (.aload_n 0, 1) := by decide +kernel
theorem dX11_noTray_6 : decode cX11_noTray 6 = .ok (.getfield 52, 3) := by decide +kernel
theorem dX11_noTray_9 : decode cX11_noTray 9 = .ok (.arraylength, 1) := by decide +kernel
theorem dX11_noTray_10 : decode cX11_noTray 10 = .ok (.if_icmp .lt 7, 3) := by decide +kernel
theorem dX11_noTray_13 : decode cX11_noTray 13 = .ok (.iconst 1, 1) := by decide +kernel
theorem dX11_noTray_14 : decode cX11_noTray 14 = .ok (.goto 4, 3) := by decide +kernel
theorem dX11_noTray_17 : decode cX11_noTray 17 = .ok (.iconst 0, 1) := by decide +kernel
theorem dX11_noTray_18 : decode cX11_noTray 18 = .ok (.ireturn, 1) := by decide +kernel
theorem dX11_noSet_0 : decode cX11_noSet 0 = .ok (.iload_n 1, 1) := by decide +kernel
theorem dX11_noSet_1 : decode cX11_noSet 1 = .ok (.iconst 1, 1) := by decide +kernel
theorem dX11_noSet_2 : decode cX11_noSet 2 = .ok (.aload_n 0, 1) := by decide +kernel
theorem dX11_noSet_3 : decode cX11_noSet 3 = .ok (.getfield 20, 3) := by decide +kernel
theorem dX11_noSet_6 : decode cX11_noSet 6 = .ok (.getfield 184, 3) := by decide +kernel
theorem dX11_noSet_9 : decode cX11_noSet 9 = .ok (.ishl, 1) := by decide +kernel
theorem dX11_noSet_10 : decode cX11_noSet 10 = .ok (.ineg, 1) := by decide +kernel
theorem dX11_noSet_11 : decode cX11_noSet 11 = .ok (.iand, 1) := by decide +kernel
theorem dX11_noSet_12 : decode cX11_noSet 12 = .ok (.ifCond .eq 7, 3) := by decide +kernel
theorem dX11_noSet_15 : decode cX11_noSet 15 = .ok (.iconst 1, 1) := by decide +kernel
theorem dX11_noSet_16 : decode cX11_noSet 16 = .ok (.goto 4, 3) := by decide +kernel
theorem dX11_noSet_19 : decode cX11_noSet 19 = .ok (.iconst 0, 1) := by decide +kernel
theorem dX11_noSet_20 : decode cX11_noSet 20 = .ok (.ireturn, 1) := by decide +kernel
theorem dX11_tell_0 : decode cX11_tell 0 = .ok (.aload_n 0, 1) := by decide +kernel
theorem dX11_tell_1 : decode cX11_tell 1 = .ok (.getfield 40, 3) := by decide +kernel
theorem dX11_tell_4 : decode cX11_tell 4 = .ok (.aload_n 0, 1) := by decide +kernel
theorem dX11_tell_5 : decode cX11_tell 5 = .ok (.getfield 36, 3) := by decide +kernel
theorem dX11_tell_8 : decode cX11_tell 8 = .ok (.invokevirtual 187, 3) := by decide +kernel
theorem dX11_tell_11 : decode cX11_tell 11 = .ok (.aload_n 0, 1) := by decide +kernel
theorem dX11_tell_12 : decode cX11_tell 12 = .ok (.getfield 40, 3) := by decide +kernel
theorem dX11_tell_15 : decode cX11_tell 15 = .ok (.aload_n 0, 1) := by decide +kernel
theorem dX11_tell_16 : decode cX11_tell 16 = .ok (.getfield 20, 3) := by decide +kernel
theorem dX11_tell_19 : decode cX11_tell 19 = .ok (.iload_n 1, 1) := by decide +kernel
theorem dX11_tell_20 : decode cX11_tell 20 = .ok (.iload_n 2, 1) := by decide +kernel
theorem dX11_tell_21 : decode cX11_tell 21 = .ok (.invokevirtual 191, 3) := by decide +kernel
theorem dX11_tell_24 : decode cX11_tell 24 = .ok (.istore_n 3, 1) := by decide +kernel
theorem dX11_tell_25 : decode cX11_tell 25 = .ok (.iload_n 3, 1) := by decide +kernel
theorem dX11_tell_26 : decode cX11_tell 26 = .ok (.ifCond .eq 8, 3) := by decide +kernel
theorem dX11_tell_29 : decode cX11_tell 29 = .ok (.bipush (-10), 2) := by decide +kernel
theorem dX11_tell_31 : decode cX11_tell 31 = .ok (.iload_n 3, 1) := by decide +kernel
theorem dX11_tell_32 : decode cX11_tell 32 = .ok (.isub, 1) := by decide +kernel
theorem dX11_tell_33 : decode cX11_tell 33 = .ok (.ireturn, 1) := by decide +kernel
theorem dX11_tell_34 : decode cX11_tell 34 = .ok (.aload_n 0, 1) := by decide +kernel
theorem dX11_tell_35 : decode cX11_tell 35 = .ok (.invokevirtual 195, 3) := by decide +kernel
theorem dX11_tell_38 : decode cX11_tell 38 = .ok (.aload_n 0, 1) := by decide +kernel
theorem dX11_tell_39 : decode cX11_tell 39 = .ok (.getfield 36, 3) := by decide +kernel
theorem dX11_tell_42 : decode cX11_tell 42 = .ok (.getfield 127, 3) := by decide +kernel
theorem dX11_tell_45 : decode cX11_tell 45 = .ok (.iconst 1, 1) := by decide +kernel
theorem dX11_tell_46 : decode cX11_tell 46 = .ok (.iload_n 1, 1) := by decide +kernel
theorem dX11_tell_47 : decode cX11_tell 47 = .ok (.isub, 1) := by decide +kernel
theorem dX11_tell_48 : decode cX11_tell 48 = .ok (.iload_n 2, 1) := by decide +kernel
theorem dX11_tell_49 : decode cX11_tell 49 = .ok (.invokestatic 156, 3) := by decide +kernel
theorem dX11_tell_52 : decode cX11_tell 52 = .ok (.ireturn, 1) := by decide +kernel
theorem dX11_days_0 : decode cX11_days 0 = .ok (.iload_n 1, 1) := by decide +kernel
theorem dX11_days_1 : decode cX11_days 1 = .ok (.iconst 1, 1) := by decide +kernel
theorem dX11_days_2 : decode cX11_days 2 = .ok (.if_icmp .lt 9, 3) := by decide +kernel
theorem dX11_days_5 : decode cX11_days 5 = .ok (.iload_n 1, 1) := by decide +kernel
theorem dX11_days_6 : decode cX11_days 6 = .ok (.bipush 99, 2) := by decide +kernel
theorem dX11_days_8 : decode cX11_days 8 = .ok (.if_icmp .le 6, 3) := by decide +kernel
theorem dX11_days_11 : decode cX11_days 11 = .ok (.bipush (-3), 2) := by decide +kernel
theorem dX11_days_13 : decode cX11_days 13 = .ok (.ireturn, 1) := by decide +kernel
theorem dX11_days_14 : decode cX11_days 14 = .ok (.aload_n 0, 1) := by decide +kernel
theorem dX11_days_15 : decode cX11_days 15 = .ok (.getfield 40, 3) := by decide +kernel
theorem dX11_days_18 : decode cX11_days 18 = .ok (.aload_n 0, 1) := by decide +kernel
theorem dX11_days_19 : decode cX11_days 19 = .ok (.getfield 36, 3) := by decide +kernel
theorem dX11_days_22 : decode cX11_days 22 = .ok (.invokevirtual 187, 3) := by decide +kernel
theorem dX11_days_25 : decode cX11_days 25 = .ok (.iconst 0, 1) := by decide +kernel
theorem dX11_days_26 : decode cX11_days 26 = .ok (.istore_n 2, 1) := by decide +kernel
theorem dX11_days_27 : decode cX11_days 27 = .ok (.iload_n 2, 1) := by decide +kernel
theorem dX11_days_28 : decode cX11_days 28 = .ok (.iload_n 1, 1) := by decide +kernel
theorem dX11_days_29 : decode cX11_days 29 = .ok (.if_icmp .ge 26, 3) := by decide +kernel
theorem dX11_days_32 : decode cX11_days 32 = .ok (.aload_n 0, 1) := by decide +kernel
theorem dX11_days_33 : decode cX11_days 33 = .ok (.getfield 40, 3) := by decide +kernel
theorem dX11_days_36 : decode cX11_days 36 = .ok (.aload_n 0, 1) := by decide +kernel
theorem dX11_days_37 : decode cX11_days 37 = .ok (.getfield 40, 3) := by decide +kernel
theorem dX11_days_40 : decode cX11_days 40 = .ok (.getfield 127, 3) := by decide +kernel
theorem dX11_days_43 : decode cX11_days 43 = .ok (.invokestatic 198, 3) := by decide +kernel
theorem dX11_days_46 : decode cX11_days 46 = .ok (.putfield 127, 3) := by decide +kernel
theorem dX11_days_49 : decode cX11_days 49 = .ok (.iinc 2 1, 3) := by decide +kernel
theorem dX11_days_52 : decode cX11_days 52 = .ok (.goto (-25), 3) := by decide +kernel
theorem dX11_days_55 : decode cX11_days 55 = .ok (.aload_n 0, 1) := by decide +kernel
theorem dX11_days_56 : decode cX11_days 56 = .ok (.invokevirtual 195, 3) := by decide +kernel
theorem dX11_days_59 : decode cX11_days 59 = .ok (.aload_n 0, 1) := by decide +kernel
theorem dX11_days_60 : decode cX11_days 60 = .ok (.getfield 20, 3) := by decide +kernel
theorem dX11_days_63 : decode cX11_days 63 = .ok (.aload_n 0, 1) := by decide +kernel
theorem dX11_days_64 : decode cX11_days 64 = .ok (.getfield 36, 3) := by decide +kernel
theorem dX11_days_67 : decode cX11_days 67 = .ok (.getfield 127, 3) := by decide +kernel
theorem dX11_days_70 : decode cX11_days 70 = .ok (.invokevirtual 201, 3) := by decide +kernel
theorem dX11_days_73 : decode cX11_days 73 = .ok (.ireturn, 1) := by decide +kernel
theorem dX11_forget_0 : decode cX11_forget 0 = .ok (.aload_n 0, 1) := by decide +kernel
theorem dX11_forget_1 : decode cX11_forget 1 = .ok (.getfield 40, 3) := by decide +kernel
theorem dX11_forget_4 : decode cX11_forget 4 = .ok (.aload_n 0, 1) := by decide +kernel
theorem dX11_forget_5 : decode cX11_forget 5 = .ok (.getfield 36, 3) := by decide +kernel
theorem dX11_forget_8 : decode cX11_forget 8 = .ok (.invokevirtual 187, 3) := by decide +kernel
theorem dX11_forget_11 : decode cX11_forget 11 = .ok (.aload_n 0, 1) := by decide +kernel
theorem dX11_forget_12 : decode cX11_forget 12 = .ok (.getfield 40, 3) := by decide +kernel
theorem dX11_forget_15 : decode cX11_forget 15 = .ok (.aload_n 0, 1) := by decide +kernel
theorem dX11_forget_16 : decode cX11_forget 16 = .ok (.getfield 20, 3) := by decide +kernel
theorem dX11_forget_19 : decode cX11_forget 19 = .ok (.iload_n 1, 1) := by decide +kernel
theorem dX11_forget_20 : decode cX11_forget 20 = .ok (.iload_n 2, 1) := by decide +kernel
theorem dX11_forget_21 : decode cX11_forget 21 = .ok (.invokevirtual 204, 3) := by decide +kernel
theorem dX11_forget_24 : decode cX11_forget 24 = .ok (.istore_n 3, 1) := by decide +kernel
theorem dX11_forget_25 : decode cX11_forget 25 = .ok (.iload_n 3, 1) := by decide +kernel
theorem dX11_forget_26 : decode cX11_forget 26 = .ok (.ifCond .eq 8, 3) := by decide +kernel
theorem dX11_forget_29 : decode cX11_forget 29 = .ok (.bipush (-10), 2) := by decide +kernel
theorem dX11_forget_31 : decode cX11_forget 31 = .ok (.iload_n 3, 1) := by decide +kernel
theorem dX11_forget_32 : decode cX11_forget 32 = .ok (.isub, 1) := by decide +kernel
theorem dX11_forget_33 : decode cX11_forget 33 = .ok (.ireturn, 1) := by decide +kernel
theorem dX11_forget_34 : decode cX11_forget 34 = .ok (.aload_n 0, 1) := by decide +kernel
theorem dX11_forget_35 : decode cX11_forget 35 = .ok (.getfield 36, 3) := by decide +kernel
theorem dX11_forget_38 : decode cX11_forget 38 = .ok (.getfield 127, 3) := by decide +kernel
theorem dX11_forget_41 : decode cX11_forget 41 = .ok (.iload_n 1, 1) := by decide +kernel
theorem dX11_forget_42 : decode cX11_forget 42 = .ok (.iload_n 2, 1) := by decide +kernel
theorem dX11_forget_43 : decode cX11_forget 43 = .ok (.invokestatic 156, 3) := by decide +kernel
theorem dX11_forget_46 : decode cX11_forget 46 = .ok (.istore 4, 2) := by decide +kernel
theorem dX11_forget_48 : decode cX11_forget 48 = .ok (.aload_n 0, 1) := by decide +kernel
theorem dX11_forget_49 : decode cX11_forget 49 = .ok (.invokevirtual 195, 3) := by decide +kernel
theorem dX11_forget_52 : decode cX11_forget 52 = .ok (.iload 4, 2) := by decide +kernel
theorem dX11_forget_54 : decode cX11_forget 54 = .ok (.ireturn, 1) := by decide +kernel
theorem dX11_bond_0 : decode cX11_bond 0 = .ok (.aload_n 0, 1) := by decide +kernel
theorem dX11_bond_1 : decode cX11_bond 1 = .ok (.getfield 40, 3) := by decide +kernel
theorem dX11_bond_4 : decode cX11_bond 4 = .ok (.aload_n 0, 1) := by decide +kernel
theorem dX11_bond_5 : decode cX11_bond 5 = .ok (.getfield 36, 3) := by decide +kernel
theorem dX11_bond_8 : decode cX11_bond 8 = .ok (.invokevirtual 187, 3) := by decide +kernel
theorem dX11_bond_11 : decode cX11_bond 11 = .ok (.aload_n 0, 1) := by decide +kernel
theorem dX11_bond_12 : decode cX11_bond 12 = .ok (.getfield 40, 3) := by decide +kernel
theorem dX11_bond_15 : decode cX11_bond 15 = .ok (.iload_n 1, 1) := by decide +kernel
theorem dX11_bond_16 : decode cX11_bond 16 = .ok (.invokevirtual 207, 3) := by decide +kernel
theorem dX11_bond_19 : decode cX11_bond 19 = .ok (.istore_n 2, 1) := by decide +kernel
theorem dX11_bond_20 : decode cX11_bond 20 = .ok (.iload_n 2, 1) := by decide +kernel
theorem dX11_bond_21 : decode cX11_bond 21 = .ok (.ifCond .eq 8, 3) := by decide +kernel
theorem dX11_bond_24 : decode cX11_bond 24 = .ok (.bipush (-10), 2) := by decide +kernel
theorem dX11_bond_26 : decode cX11_bond 26 = .ok (.iload_n 2, 1) := by decide +kernel
theorem dX11_bond_27 : decode cX11_bond 27 = .ok (.isub, 1) := by decide +kernel
theorem dX11_bond_28 : decode cX11_bond 28 = .ok (.ireturn, 1) := by decide +kernel
theorem dX11_bond_29 : decode cX11_bond 29 = .ok (.aload_n 0, 1) := by decide +kernel
theorem dX11_bond_30 : decode cX11_bond 30 = .ok (.getfield 36, 3) := by decide +kernel
theorem dX11_bond_33 : decode cX11_bond 33 = .ok (.getfield 133, 3) := by decide +kernel
theorem dX11_bond_36 : decode cX11_bond 36 = .ok (.istore_n 3, 1) := by decide +kernel
theorem dX11_bond_37 : decode cX11_bond 37 = .ok (.aload_n 0, 1) := by decide +kernel
theorem dX11_bond_38 : decode cX11_bond 38 = .ok (.invokevirtual 195, 3) := by decide +kernel
theorem dX11_bond_41 : decode cX11_bond 41 = .ok (.iload_n 3, 1) := by decide +kernel
theorem dX11_bond_42 : decode cX11_bond 42 = .ok (.ireturn, 1) := by decide +kernel
theorem dX11_takeTrial_0 : decode cX11_takeTrial 0 = .ok (.aload_n 0, 1) := by decide +kernel
theorem dX11_takeTrial_1 : decode cX11_takeTrial 1 = .ok (.getfield 46, 3) := by decide +kernel
theorem dX11_takeTrial_4 : decode cX11_takeTrial 4 = .ok (.aload_n 0, 1) := by decide +kernel
theorem dX11_takeTrial_5 : decode cX11_takeTrial 5 = .ok (.getfield 36, 3) := by decide +kernel
theorem dX11_takeTrial_8 : decode cX11_takeTrial 8 = .ok (.invokevirtual 210, 3) := by decide +kernel
theorem dX11_takeTrial_11 : decode cX11_takeTrial 11 = .ok (.aload_n 0, 1) := by decide +kernel
theorem dX11_takeTrial_12 : decode cX11_takeTrial 12 = .ok (.getfield 36, 3) := by decide +kernel
theorem dX11_takeTrial_15 : decode cX11_takeTrial 15 = .ok (.aload_n 0, 1) := by decide +kernel
theorem dX11_takeTrial_16 : decode cX11_takeTrial 16 = .ok (.getfield 40, 3) := by decide +kernel
theorem dX11_takeTrial_19 : decode cX11_takeTrial 19 = .ok (.invokevirtual 187, 3) := by decide +kernel
theorem dX11_takeTrial_22 : decode cX11_takeTrial 22 = .ok (.return_, 1) := by decide +kernel
theorem dX11_undo_0 : decode cX11_undo 0 = .ok (.iload_n 1, 1) := by decide +kernel
theorem dX11_undo_1 : decode cX11_undo 1 = .ok (.iconst 1, 1) := by decide +kernel
theorem dX11_undo_2 : decode cX11_undo 2 = .ok (.if_icmp .lt 14, 3) := by decide +kernel
theorem dX11_undo_5 : decode cX11_undo 5 = .ok (.iload_n 1, 1) := by decide +kernel
theorem dX11_undo_6 : decode cX11_undo 6 = .ok (.aload_n 0, 1) := by decide +kernel
theorem dX11_undo_7 : decode cX11_undo 7 = .ok (.getfield 46, 3) := by decide +kernel
theorem dX11_undo_10 : decode cX11_undo 10 = .ok (.getfield 213, 3) := by decide +kernel
theorem dX11_undo_13 : decode cX11_undo 13 = .ok (.if_icmp .le 6, 3) := by decide +kernel
theorem dX11_undo_16 : decode cX11_undo 16 = .ok (.bipush (-3), 2) := by decide +kernel
theorem dX11_undo_18 : decode cX11_undo 18 = .ok (.ireturn, 1) := by decide +kernel
theorem dX11_undo_19 : decode cX11_undo 19 = .ok (.aload_n 0, 1) := by decide +kernel
theorem dX11_undo_20 : decode cX11_undo 20 = .ok (.getfield 46, 3) := by decide +kernel
theorem dX11_undo_23 : decode cX11_undo 23 = .ok (.iload_n 1, 1) := by decide +kernel
theorem dX11_undo_24 : decode cX11_undo 24 = .ok (.aload_n 0, 1) := by decide +kernel
theorem dX11_undo_25 : decode cX11_undo 25 = .ok (.getfield 36, 3) := by decide +kernel
theorem dX11_undo_28 : decode cX11_undo 28 = .ok (.invokevirtual 216, 3) := by decide +kernel
theorem dX11_undo_31 : decode cX11_undo 31 = .ok (.aload_n 0, 1) := by decide +kernel
theorem dX11_undo_32 : decode cX11_undo 32 = .ok (.getfield 46, 3) := by decide +kernel
theorem dX11_undo_35 : decode cX11_undo 35 = .ok (.getfield 213, 3) := by decide +kernel
theorem dX11_undo_38 : decode cX11_undo 38 = .ok (.ireturn, 1) := by decide +kernel
theorem dX11_judge_0 : decode cX11_judge 0 = .ok (.aload_n 0, 1) := by decide +kernel
theorem dX11_judge_1 : decode cX11_judge 1 = .ok (.iload_n 1, 1) := by decide +kernel
theorem dX11_judge_2 : decode cX11_judge 2 = .ok (.invokevirtual 220, 3) := by decide +kernel
theorem dX11_judge_5 : decode cX11_judge 5 = .ok (.ifCond .ne 12, 3) := by decide +kernel
theorem dX11_judge_8 : decode cX11_judge 8 = .ok (.iload_n 2, 1) := by decide +kernel
theorem dX11_judge_9 : decode cX11_judge 9 = .ok (.ifCond .lt 8, 3) := by decide +kernel
theorem dX11_judge_12 : decode cX11_judge 12 = .ok (.iload_n 2, 1) := by decide +kernel
theorem dX11_judge_13 : decode cX11_judge 13 = .ok (.iconst 3, 1) := by decide +kernel
theorem dX11_judge_14 : decode cX11_judge 14 = .ok (.if_icmp .le 6, 3) := by decide +kernel
theorem dX11_judge_17 : decode cX11_judge 17 = .ok (.bipush (-2), 2) := by decide +kernel
theorem dX11_judge_19 : decode cX11_judge 19 = .ok (.ireturn, 1) := by decide +kernel
theorem dX11_judge_20 : decode cX11_judge 20 = .ok (.aload_n 0, 1) := by decide +kernel
theorem dX11_judge_21 : decode cX11_judge 21 = .ok (.getfield 52, 3) := by decide +kernel
theorem dX11_judge_24 : decode cX11_judge 24 = .ok (.iload_n 1, 1) := by decide +kernel
theorem dX11_judge_25 : decode cX11_judge 25 = .ok (.aaload, 1) := by decide +kernel
theorem dX11_judge_26 : decode cX11_judge 26 = .ok (.invokevirtual 223, 3) := by decide +kernel
theorem dX11_judge_29 : decode cX11_judge 29 = .ok (.ifCond .eq 6, 3) := by decide +kernel
theorem dX11_judge_32 : decode cX11_judge 32 = .ok (.bipush (-6), 2) := by decide +kernel
theorem dX11_judge_34 : decode cX11_judge 34 = .ok (.ireturn, 1) := by decide +kernel
theorem dX11_judge_35 : decode cX11_judge 35 = .ok (.aload_n 0, 1) := by decide +kernel
theorem dX11_judge_36 : decode cX11_judge 36 = .ok (.getfield 40, 3) := by decide +kernel
theorem dX11_judge_39 : decode cX11_judge 39 = .ok (.aload_n 0, 1) := by decide +kernel
theorem dX11_judge_40 : decode cX11_judge 40 = .ok (.getfield 36, 3) := by decide +kernel
theorem dX11_judge_43 : decode cX11_judge 43 = .ok (.invokevirtual 187, 3) := by decide +kernel
theorem dX11_judge_46 : decode cX11_judge 46 = .ok (.aload_n 0, 1) := by decide +kernel
theorem dX11_judge_47 : decode cX11_judge 47 = .ok (.getfield 40, 3) := by decide +kernel
theorem dX11_judge_50 : decode cX11_judge 50 = .ok (.aload_n 0, 1) := by decide +kernel
theorem dX11_judge_51 : decode cX11_judge 51 = .ok (.getfield 20, 3) := by decide +kernel
theorem dX11_judge_54 : decode cX11_judge 54 = .ok (.aload_n 0, 1) := by decide +kernel
theorem dX11_judge_55 : decode cX11_judge 55 = .ok (.getfield 52, 3) := by decide +kernel
theorem dX11_judge_58 : decode cX11_judge 58 = .ok (.iload_n 1, 1) := by decide +kernel
theorem dX11_judge_59 : decode cX11_judge 59 = .ok (.aaload, 1) := by decide +kernel
theorem dX11_judge_60 : decode cX11_judge 60 = .ok (.invokevirtual 227, 3) := by decide +kernel
theorem dX11_judge_63 : decode cX11_judge 63 = .ok (.istore_n 3, 1) := by decide +kernel
theorem dX11_judge_64 : decode cX11_judge 64 = .ok (.iload_n 2, 1) := by decide +kernel
theorem dX11_judge_65 : decode cX11_judge 65 = .ok (.ifCond .ne 19, 3) := by decide +kernel
theorem dX11_judge_68 : decode cX11_judge 68 = .ok (.aload_n 0, 1) := by decide +kernel
theorem dX11_judge_69 : decode cX11_judge 69 = .ok (.getfield 40, 3) := by decide +kernel
theorem dX11_judge_72 : decode cX11_judge 72 = .ok (.getfield 231, 3) := by decide +kernel
theorem dX11_judge_75 : decode cX11_judge 75 = .ok (.ifCond .ne 7, 3) := by decide +kernel
theorem dX11_judge_78 : decode cX11_judge 78 = .ok (.iconst (-1), 1) := by decide +kernel
theorem dX11_judge_79 : decode cX11_judge 79 = .ok (.goto 4, 3) := by decide +kernel
theorem dX11_judge_82 : decode cX11_judge 82 = .ok (.iload_n 3, 1) := by decide +kernel
theorem dX11_judge_83 : decode cX11_judge 83 = .ok (.ireturn, 1) := by decide +kernel
theorem dX11_judge_84 : decode cX11_judge 84 = .ok (.iload_n 2, 1) := by decide +kernel
theorem dX11_judge_85 : decode cX11_judge 85 = .ok (.iconst 1, 1) := by decide +kernel
theorem dX11_judge_86 : decode cX11_judge 86 = .ok (.if_icmp .ne 13, 3) := by decide +kernel
theorem dX11_judge_89 : decode cX11_judge 89 = .ok (.aload_n 0, 1) := by decide +kernel
theorem dX11_judge_90 : decode cX11_judge 90 = .ok (.getfield 40, 3) := by decide +kernel
theorem dX11_judge_93 : decode cX11_judge 93 = .ok (.getfield 231, 3) := by decide +kernel
theorem dX11_judge_96 : decode cX11_judge 96 = .ok (.goto 20, 3) := by decide +kernel
theorem dX11_judge_99 : decode cX11_judge 99 = .ok (.aload_n 0, 1) := by decide +kernel
theorem dX11_judge_100 : decode cX11_judge 100 = .ok (.getfield 20, 3) := by decide +kernel
theorem dX11_judge_103 : decode cX11_judge 103 = .ok (.aload_n 0, 1) := by decide +kernel
theorem dX11_judge_104 : decode cX11_judge 104 = .ok (.getfield 40, 3) := by decide +kernel
theorem dX11_judge_107 : decode cX11_judge 107 = .ok (.getfield 127, 3) := by decide +kernel
theorem dX11_judge_110 : decode cX11_judge 110 = .ok (.iload_n 2, 1) := by decide +kernel
theorem dX11_judge_111 : decode cX11_judge 111 = .ok (.iconst 2, 1) := by decide +kernel
theorem dX11_judge_112 : decode cX11_judge 112 = .ok (.isub, 1) := by decide +kernel
theorem dX11_judge_113 : decode cX11_judge 113 = .ok (.invokevirtual 170, 3) := by decide +kernel
theorem dX11_judge_116 : decode cX11_judge 116 = .ok (.ireturn, 1) := by decide +kernel
theorem dX11_perform_0 : decode cX11_perform 0 = .ok (.aload_n 0, 1) := by decide +kernel
theorem dX11_perform_1 : decode cX11_perform 1 = .ok (.iload_n 1, 1) := by decide +kernel
theorem dX11_perform_2 : decode cX11_perform 2 = .ok (.invokevirtual 220, 3) := by decide +kernel
theorem dX11_perform_5 : decode cX11_perform 5 = .ok (.ifCond .eq 6, 3) := by decide +kernel
theorem dX11_perform_8 : decode cX11_perform 8 = .ok (.bipush (-2), 2) := by decide +kernel
theorem dX11_perform_10 : decode cX11_perform 10 = .ok (.ireturn, 1) := by decide +kernel
theorem dX11_perform_11 : decode cX11_perform 11 = .ok (.aload_n 0, 1) := by decide +kernel
theorem dX11_perform_12 : decode cX11_perform 12 = .ok (.getfield 52, 3) := by decide +kernel
theorem dX11_perform_15 : decode cX11_perform 15 = .ok (.iload_n 1, 1) := by decide +kernel
theorem dX11_perform_16 : decode cX11_perform 16 = .ok (.aaload, 1) := by decide +kernel
theorem dX11_perform_17 : decode cX11_perform 17 = .ok (.invokevirtual 223, 3) := by decide +kernel
theorem dX11_perform_20 : decode cX11_perform 20 = .ok (.ifCond .eq 6, 3) := by decide +kernel
theorem dX11_perform_23 : decode cX11_perform 23 = .ok (.bipush (-6), 2) := by decide +kernel
theorem dX11_perform_25 : decode cX11_perform 25 = .ok (.ireturn, 1) := by decide +kernel
theorem dX11_perform_26 : decode cX11_perform 26 = .ok (.aload_n 0, 1) := by decide +kernel
theorem dX11_perform_27 : decode cX11_perform 27 = .ok (.getfield 40, 3) := by decide +kernel
theorem dX11_perform_30 : decode cX11_perform 30 = .ok (.aload_n 0, 1) := by decide +kernel
theorem dX11_perform_31 : decode cX11_perform 31 = .ok (.getfield 36, 3) := by decide +kernel
theorem dX11_perform_34 : decode cX11_perform 34 = .ok (.invokevirtual 187, 3) := by decide +kernel
theorem dX11_perform_37 : decode cX11_perform 37 = .ok (.aload_n 0, 1) := by decide +kernel
theorem dX11_perform_38 : decode cX11_perform 38 = .ok (.getfield 40, 3) := by decide +kernel
theorem dX11_perform_41 : decode cX11_perform 41 = .ok (.aload_n 0, 1) := by decide +kernel
theorem dX11_perform_42 : decode cX11_perform 42 = .ok (.getfield 20, 3) := by decide +kernel
theorem dX11_perform_45 : decode cX11_perform 45 = .ok (.aload_n 0, 1) := by decide +kernel
theorem dX11_perform_46 : decode cX11_perform 46 = .ok (.getfield 52, 3) := by decide +kernel
theorem dX11_perform_49 : decode cX11_perform 49 = .ok (.iload_n 1, 1) := by decide +kernel
theorem dX11_perform_50 : decode cX11_perform 50 = .ok (.aaload, 1) := by decide +kernel
theorem dX11_perform_51 : decode cX11_perform 51 = .ok (.invokevirtual 227, 3) := by decide +kernel
theorem dX11_perform_54 : decode cX11_perform 54 = .ok (.istore_n 2, 1) := by decide +kernel
theorem dX11_perform_55 : decode cX11_perform 55 = .ok (.iload_n 2, 1) := by decide +kernel
theorem dX11_perform_56 : decode cX11_perform 56 = .ok (.ifCond .le 7, 3) := by decide +kernel
theorem dX11_perform_59 : decode cX11_perform 59 = .ok (.aload_n 0, 1) := by decide +kernel
theorem dX11_perform_60 : decode cX11_perform 60 = .ok (.invokevirtual 195, 3) := by decide +kernel
theorem dX11_perform_63 : decode cX11_perform 63 = .ok (.iload_n 2, 1) := by decide +kernel
theorem dX11_perform_64 : decode cX11_perform 64 = .ok (.ireturn, 1) := by decide +kernel
theorem dX11_year_0 : decode cX11_year 0 = .ok (.iload_n 2, 1) := by decide +kernel
theorem dX11_year_1 : decode cX11_year 1 = .ok (.iconst 1, 1) := by decide +kernel
theorem dX11_year_2 : decode cX11_year 2 = .ok (.if_icmp .lt 9, 3) := by decide +kernel
theorem dX11_year_5 : decode cX11_year 5 = .ok (.iload_n 2, 1) := by decide +kernel
theorem dX11_year_6 : decode cX11_year 6 = .ok (.bipush 40, 2) := by decide +kernel
theorem dX11_year_8 : decode cX11_year 8 = .ok (.if_icmp .le 6, 3) := by decide +kernel
theorem dX11_year_11 : decode cX11_year 11 = .ok (.bipush (-3), 2) := by decide +kernel
theorem dX11_year_13 : decode cX11_year 13 = .ok (.ireturn, 1) := by decide +kernel
theorem dX11_year_14 : decode cX11_year 14 = .ok (.aload_n 0, 1) := by decide +kernel
theorem dX11_year_15 : decode cX11_year 15 = .ok (.getfield 40, 3) := by decide +kernel
theorem dX11_year_18 : decode cX11_year 18 = .ok (.aload_n 0, 1) := by decide +kernel
theorem dX11_year_19 : decode cX11_year 19 = .ok (.getfield 36, 3) := by decide +kernel
theorem dX11_year_22 : decode cX11_year 22 = .ok (.invokevirtual 187, 3) := by decide +kernel
theorem dX11_year_25 : decode cX11_year 25 = .ok (.aload_n 0, 1) := by decide +kernel
theorem dX11_year_26 : decode cX11_year 26 = .ok (.getfield 40, 3) := by decide +kernel
theorem dX11_year_29 : decode cX11_year 29 = .ok (.aload_n 0, 1) := by decide +kernel
theorem dX11_year_30 : decode cX11_year 30 = .ok (.getfield 20, 3) := by decide +kernel
theorem dX11_year_33 : decode cX11_year 33 = .ok (.iload_n 1, 1) := by decide +kernel
theorem dX11_year_34 : decode cX11_year 34 = .ok (.iload_n 2, 1) := by decide +kernel
theorem dX11_year_35 : decode cX11_year 35 = .ok (.invokevirtual 234, 3) := by decide +kernel
theorem dX11_year_38 : decode cX11_year 38 = .ok (.istore_n 3, 1) := by decide +kernel
theorem dX11_year_39 : decode cX11_year 39 = .ok (.iload_n 3, 1) := by decide +kernel
theorem dX11_year_40 : decode cX11_year 40 = .ok (.ifCond .le 7, 3) := by decide +kernel
theorem dX11_year_43 : decode cX11_year 43 = .ok (.aload_n 0, 1) := by decide +kernel
theorem dX11_year_44 : decode cX11_year 44 = .ok (.invokevirtual 195, 3) := by decide +kernel
theorem dX11_year_47 : decode cX11_year 47 = .ok (.iload_n 3, 1) := by decide +kernel
theorem dX11_year_48 : decode cX11_year 48 = .ok (.ireturn, 1) := by decide +kernel
theorem dX11_soonest_0 : decode cX11_soonest 0 = .ok (.aload_n 0, 1) := by decide +kernel
theorem dX11_soonest_1 : decode cX11_soonest 1 = .ok (.iload_n 1, 1) := by decide +kernel
theorem dX11_soonest_2 : decode cX11_soonest 2 = .ok (.invokevirtual 237, 3) := by decide +kernel
theorem dX11_soonest_5 : decode cX11_soonest 5 = .ok (.ifCond .ne 11, 3) := by decide +kernel
theorem dX11_soonest_8 : decode cX11_soonest 8 = .ok (.aload_n 0, 1) := by decide +kernel
theorem dX11_soonest_9 : decode cX11_soonest 9 = .ok (.iload_n 2, 1) := by decide +kernel
theorem dX11_soonest_10 : decode cX11_soonest 10 = .ok (.invokevirtual 237, 3) := by decide +kernel
theorem dX11_soonest_13 : decode cX11_soonest 13 = .ok (.ifCond .eq 6, 3) := by decide +kernel
theorem dX11_soonest_16 : decode cX11_soonest 16 = .ok (.bipush (-3), 2) := by decide +kernel
theorem dX11_soonest_18 : decode cX11_soonest 18 = .ok (.ireturn, 1) := by decide +kernel
theorem dX11_soonest_19 : decode cX11_soonest 19 = .ok (.aload_n 0, 1) := by decide +kernel
theorem dX11_soonest_20 : decode cX11_soonest 20 = .ok (.iload_n 1, 1) := by decide +kernel
theorem dX11_soonest_21 : decode cX11_soonest 21 = .ok (.iload_n 2, 1) := by decide +kernel
theorem dX11_soonest_22 : decode cX11_soonest 22 = .ok (.invokevirtual 240, 3) := by decide +kernel
theorem dX11_soonest_25 : decode cX11_soonest 25 = .ok (.istore_n 3, 1) := by decide +kernel
theorem dX11_soonest_26 : decode cX11_soonest 26 = .ok (.iload_n 3, 1) := by decide +kernel
theorem dX11_soonest_27 : decode cX11_soonest 27 = .ok (.ifCond .ge 7, 3) := by decide +kernel
theorem dX11_soonest_30 : decode cX11_soonest 30 = .ok (.iconst (-1), 1) := by decide +kernel
theorem dX11_soonest_31 : decode cX11_soonest 31 = .ok (.goto 11, 3) := by decide +kernel
theorem dX11_soonest_34 : decode cX11_soonest 34 = .ok (.aload_n 0, 1) := by decide +kernel
theorem dX11_soonest_35 : decode cX11_soonest 35 = .ok (.getfield 66, 3) := by decide +kernel
theorem dX11_soonest_38 : decode cX11_soonest 38 = .ok (.iload_n 3, 1) := by decide +kernel
theorem dX11_soonest_39 : decode cX11_soonest 39 = .ok (.invokevirtual 243, 3) := by decide +kernel
theorem dX11_soonest_42 : decode cX11_soonest 42 = .ok (.ireturn, 1) := by decide +kernel
theorem dX11_way_0 : decode cX11_way 0 = .ok (.aload_n 0, 1) := by decide +kernel
theorem dX11_way_1 : decode cX11_way 1 = .ok (.iload_n 1, 1) := by decide +kernel
theorem dX11_way_2 : decode cX11_way 2 = .ok (.invokevirtual 237, 3) := by decide +kernel
theorem dX11_way_5 : decode cX11_way 5 = .ok (.ifCond .ne 15, 3) := by decide +kernel
theorem dX11_way_8 : decode cX11_way 8 = .ok (.aload_n 0, 1) := by decide +kernel
theorem dX11_way_9 : decode cX11_way 9 = .ok (.iload_n 2, 1) := by decide +kernel
theorem dX11_way_10 : decode cX11_way 10 = .ok (.invokevirtual 237, 3) := by decide +kernel
theorem dX11_way_13 : decode cX11_way 13 = .ok (.ifCond .ne 7, 3) := by decide +kernel
theorem dX11_way_16 : decode cX11_way 16 = .ok (.iload_n 3, 1) := by decide +kernel
theorem dX11_way_17 : decode cX11_way 17 = .ok (.ifCond .ge 6, 3) := by decide +kernel
theorem dX11_way_20 : decode cX11_way 20 = .ok (.bipush (-3), 2) := by decide +kernel
theorem dX11_way_22 : decode cX11_way 22 = .ok (.ireturn, 1) := by decide +kernel
theorem dX11_way_23 : decode cX11_way 23 = .ok (.aload_n 0, 1) := by decide +kernel
theorem dX11_way_24 : decode cX11_way 24 = .ok (.aload_n 0, 1) := by decide +kernel
theorem dX11_way_25 : decode cX11_way 25 = .ok (.iload_n 1, 1) := by decide +kernel
theorem dX11_way_26 : decode cX11_way 26 = .ok (.iload_n 2, 1) := by decide +kernel
theorem dX11_way_27 : decode cX11_way 27 = .ok (.invokevirtual 240, 3) := by decide +kernel
theorem dX11_way_30 : decode cX11_way 30 = .ok (.iload_n 3, 1) := by decide +kernel
theorem dX11_way_31 : decode cX11_way 31 = .ok (.invokevirtual 246, 3) := by decide +kernel
theorem dX11_way_34 : decode cX11_way 34 = .ok (.ireturn, 1) := by decide +kernel
theorem dX11_alone_0 : decode cX11_alone 0 = .ok (.aload_n 0, 1) := by decide +kernel
theorem dX11_alone_1 : decode cX11_alone 1 = .ok (.iload_n 1, 1) := by decide +kernel
theorem dX11_alone_2 : decode cX11_alone 2 = .ok (.invokevirtual 149, 3) := by decide +kernel
theorem dX11_alone_5 : decode cX11_alone 5 = .ok (.ifCond .ne 11, 3) := by decide +kernel
theorem dX11_alone_8 : decode cX11_alone 8 = .ok (.aload_n 0, 1) := by decide +kernel
theorem dX11_alone_9 : decode cX11_alone 9 = .ok (.iload_n 2, 1) := by decide +kernel
theorem dX11_alone_10 : decode cX11_alone 10 = .ok (.invokevirtual 160, 3) := by decide +kernel
theorem dX11_alone_13 : decode cX11_alone 13 = .ok (.ifCond .eq 6, 3) := by decide +kernel
theorem dX11_alone_16 : decode cX11_alone 16 = .ok (.bipush (-2), 2) := by decide +kernel
theorem dX11_alone_18 : decode cX11_alone 18 = .ok (.ireturn, 1) := by decide +kernel
theorem dX11_alone_19 : decode cX11_alone 19 = .ok (.aload_n 0, 1) := by decide +kernel
theorem dX11_alone_20 : decode cX11_alone 20 = .ok (.iload_n 1, 1) := by decide +kernel
theorem dX11_alone_21 : decode cX11_alone 21 = .ok (.iload_n 2, 1) := by decide +kernel
theorem dX11_alone_22 : decode cX11_alone 22 = .ok (.invokevirtual 249, 3) := by decide +kernel
theorem dX11_alone_25 : decode cX11_alone 25 = .ok (.istore_n 3, 1) := by decide +kernel
theorem dX11_alone_26 : decode cX11_alone 26 = .ok (.iload_n 3, 1) := by decide +kernel
theorem dX11_alone_27 : decode cX11_alone 27 = .ok (.ifCond .ge 7, 3) := by decide +kernel
theorem dX11_alone_30 : decode cX11_alone 30 = .ok (.iconst (-1), 1) := by decide +kernel
theorem dX11_alone_31 : decode cX11_alone 31 = .ok (.goto 11, 3) := by decide +kernel
theorem dX11_alone_34 : decode cX11_alone 34 = .ok (.aload_n 0, 1) := by decide +kernel
theorem dX11_alone_35 : decode cX11_alone 35 = .ok (.getfield 66, 3) := by decide +kernel
theorem dX11_alone_38 : decode cX11_alone 38 = .ok (.iload_n 3, 1) := by decide +kernel
theorem dX11_alone_39 : decode cX11_alone 39 = .ok (.invokevirtual 243, 3) := by decide +kernel
theorem dX11_alone_42 : decode cX11_alone 42 = .ok (.ireturn, 1) := by decide +kernel
theorem dX11_aloneWay_0 : decode cX11_aloneWay 0 = .ok (.aload_n 0, 1) := by decide +kernel
theorem dX11_aloneWay_1 : decode cX11_aloneWay 1 = .ok (.iload_n 1, 1) := by decide +kernel
theorem dX11_aloneWay_2 : decode cX11_aloneWay 2 = .ok (.invokevirtual 149, 3) := by decide +kernel
theorem dX11_aloneWay_5 : decode cX11_aloneWay 5 = .ok (.ifCond .ne 11, 3) := by decide +kernel
theorem dX11_aloneWay_8 : decode cX11_aloneWay 8 = .ok (.aload_n 0, 1) := by decide +kernel
theorem dX11_aloneWay_9 : decode cX11_aloneWay 9 = .ok (.iload_n 2, 1) := by decide +kernel
theorem dX11_aloneWay_10 : decode cX11_aloneWay 10 = .ok (.invokevirtual 160, 3) := by decide +kernel
theorem dX11_aloneWay_13 : decode cX11_aloneWay 13 = .ok (.ifCond .eq 6, 3) := by decide +kernel
theorem dX11_aloneWay_16 : decode cX11_aloneWay 16 = .ok (.bipush (-2), 2) := by decide +kernel
theorem dX11_aloneWay_18 : decode cX11_aloneWay 18 = .ok (.ireturn, 1) := by decide +kernel
theorem dX11_aloneWay_19 : decode cX11_aloneWay 19 = .ok (.iload_n 3, 1) := by decide +kernel
theorem dX11_aloneWay_20 : decode cX11_aloneWay 20 = .ok (.ifCond .ge 6, 3) := by decide +kernel
theorem dX11_aloneWay_23 : decode cX11_aloneWay 23 = .ok (.bipush (-3), 2) := by decide +kernel
theorem dX11_aloneWay_25 : decode cX11_aloneWay 25 = .ok (.ireturn, 1) := by decide +kernel
theorem dX11_aloneWay_26 : decode cX11_aloneWay 26 = .ok (.aload_n 0, 1) := by decide +kernel
theorem dX11_aloneWay_27 : decode cX11_aloneWay 27 = .ok (.aload_n 0, 1) := by decide +kernel
theorem dX11_aloneWay_28 : decode cX11_aloneWay 28 = .ok (.iload_n 1, 1) := by decide +kernel
theorem dX11_aloneWay_29 : decode cX11_aloneWay 29 = .ok (.iload_n 2, 1) := by decide +kernel
theorem dX11_aloneWay_30 : decode cX11_aloneWay 30 = .ok (.invokevirtual 249, 3) := by decide +kernel
theorem dX11_aloneWay_33 : decode cX11_aloneWay 33 = .ok (.iload_n 3, 1) := by decide +kernel
theorem dX11_aloneWay_34 : decode cX11_aloneWay 34 = .ok (.invokevirtual 246, 3) := by decide +kernel
theorem dX11_aloneWay_37 : decode cX11_aloneWay 37 = .ok (.ireturn, 1) := by decide +kernel
theorem dX11_endOfComing_0 : decode cX11_endOfComing 0 = .ok (.aload_n 0, 1) := by decide +kernel
theorem dX11_endOfComing_1 : decode cX11_endOfComing 1 = .ok (.getfield 66, 3) := by decide +kernel
theorem dX11_endOfComing_4 : decode cX11_endOfComing 4 = .ok (.aload_n 0, 1) := by decide +kernel
theorem dX11_endOfComing_5 : decode cX11_endOfComing 5 = .ok (.getfield 20, 3) := by decide +kernel
theorem dX11_endOfComing_8 : decode cX11_endOfComing 8 = .ok (.aload_n 0, 1) := by decide +kernel
theorem dX11_endOfComing_9 : decode cX11_endOfComing 9 = .ok (.getfield 36, 3) := by decide +kernel
theorem dX11_endOfComing_12 : decode cX11_endOfComing 12 = .ok (.iconst (-1), 1) := by decide +kernel
theorem dX11_endOfComing_13 : decode cX11_endOfComing 13 = .ok (.iconst (-1), 1) := by decide +kernel
theorem dX11_endOfComing_14 : decode cX11_endOfComing 14 = .ok (.invokevirtual 252, 3) := by decide +kernel
theorem dX11_endOfComing_17 : decode cX11_endOfComing 17 = .ok (.aload_n 0, 1) := by decide +kernel
theorem dX11_endOfComing_18 : decode cX11_endOfComing 18 = .ok (.getfield 66, 3) := by decide +kernel
theorem dX11_endOfComing_21 : decode cX11_endOfComing 21 = .ok (.iload_n 1, 1) := by decide +kernel
theorem dX11_endOfComing_22 : decode cX11_endOfComing 22 = .ok (.iload_n 2, 1) := by decide +kernel
theorem dX11_endOfComing_23 : decode cX11_endOfComing 23 = .ok (.invokevirtual 256, 3) := by decide +kernel
theorem dX11_endOfComing_26 : decode cX11_endOfComing 26 = .ok (.ireturn, 1) := by decide +kernel
theorem dX11_endOfAlone_0 : decode cX11_endOfAlone 0 = .ok (.aload_n 0, 1) := by decide +kernel
theorem dX11_endOfAlone_1 : decode cX11_endOfAlone 1 = .ok (.getfield 66, 3) := by decide +kernel
theorem dX11_endOfAlone_4 : decode cX11_endOfAlone 4 = .ok (.aload_n 0, 1) := by decide +kernel
theorem dX11_endOfAlone_5 : decode cX11_endOfAlone 5 = .ok (.getfield 20, 3) := by decide +kernel
theorem dX11_endOfAlone_8 : decode cX11_endOfAlone 8 = .ok (.aload_n 0, 1) := by decide +kernel
theorem dX11_endOfAlone_9 : decode cX11_endOfAlone 9 = .ok (.getfield 36, 3) := by decide +kernel
theorem dX11_endOfAlone_12 : decode cX11_endOfAlone 12 = .ok (.iconst (-1), 1) := by decide +kernel
theorem dX11_endOfAlone_13 : decode cX11_endOfAlone 13 = .ok (.iconst (-1), 1) := by decide +kernel
theorem dX11_endOfAlone_14 : decode cX11_endOfAlone 14 = .ok (.invokevirtual 252, 3) := by decide +kernel
theorem dX11_endOfAlone_17 : decode cX11_endOfAlone 17 = .ok (.aload_n 0, 1) := by decide +kernel
theorem dX11_endOfAlone_18 : decode cX11_endOfAlone 18 = .ok (.getfield 66, 3) := by decide +kernel
theorem dX11_endOfAlone_21 : decode cX11_endOfAlone 21 = .ok (.iload_n 1, 1) := by decide +kernel
theorem dX11_endOfAlone_22 : decode cX11_endOfAlone 22 = .ok (.iload_n 2, 1) := by decide +kernel
theorem dX11_endOfAlone_23 : decode cX11_endOfAlone 23 = .ok (.invokevirtual 259, 3) := by decide +kernel
theorem dX11_endOfAlone_26 : decode cX11_endOfAlone 26 = .ok (.ireturn, 1) := by decide +kernel
theorem dX11_answerOf_0 : decode cX11_answerOf 0 = .ok (.iload_n 1, 1) := by decide +kernel
theorem dX11_answerOf_1 : decode cX11_answerOf 1 = .ok (.ifCond .lt 15, 3) := by decide +kernel
theorem dX11_answerOf_4 : decode cX11_answerOf 4 = .ok (.iload_n 2, 1) := by decide +kernel
theorem dX11_answerOf_5 : decode cX11_answerOf 5 = .ok (.aload_n 0, 1) := by decide +kernel
theorem dX11_answerOf_6 : decode cX11_answerOf 6 = .ok (.getfield 66, 3) := by decide +kernel
theorem dX11_answerOf_9 : decode cX11_answerOf 9 = .ok (.iload_n 1, 1) := by decide +kernel
theorem dX11_answerOf_10 : decode cX11_answerOf 10 = .ok (.invokevirtual 243, 3) := by decide +kernel
theorem dX11_answerOf_13 : decode cX11_answerOf 13 = .ok (.if_icmp .lt 5, 3) := by decide +kernel
theorem dX11_answerOf_16 : decode cX11_answerOf 16 = .ok (.iconst (-1), 1) := by decide +kernel
theorem dX11_answerOf_17 : decode cX11_answerOf 17 = .ok (.ireturn, 1) := by decide +kernel
theorem dX11_answerOf_18 : decode cX11_answerOf 18 = .ok (.aload_n 0, 1) := by decide +kernel
theorem dX11_answerOf_19 : decode cX11_answerOf 19 = .ok (.getfield 66, 3) := by decide +kernel
theorem dX11_answerOf_22 : decode cX11_answerOf 22 = .ok (.iload_n 1, 1) := by decide +kernel
theorem dX11_answerOf_23 : decode cX11_answerOf 23 = .ok (.iload_n 2, 1) := by decide +kernel
theorem dX11_answerOf_24 : decode cX11_answerOf 24 = .ok (.invokevirtual 262, 3) := by decide +kernel
theorem dX11_answerOf_27 : decode cX11_answerOf 27 = .ok (.istore_n 3, 1) := by decide +kernel
theorem dX11_answerOf_28 : decode cX11_answerOf 28 = .ok (.iload_n 3, 1) := by decide +kernel
theorem dX11_answerOf_29 : decode cX11_answerOf 29 = .ok (.bipush 20, 2) := by decide +kernel
theorem dX11_answerOf_31 : decode cX11_answerOf 31 = .ok (.if_icmp .ne 8, 3) := by decide +kernel
theorem dX11_answerOf_34 : decode cX11_answerOf 34 = .ok (.bipush 99, 2) := by decide +kernel
theorem dX11_answerOf_36 : decode cX11_answerOf 36 = .ok (.goto 4, 3) := by decide +kernel
theorem dX11_answerOf_39 : decode cX11_answerOf 39 = .ok (.iload_n 3, 1) := by decide +kernel
theorem dX11_answerOf_40 : decode cX11_answerOf 40 = .ok (.ireturn, 1) := by decide +kernel
theorem dX11_rows_0 : decode cX11_rows 0 = .ok (.aload_n 0, 1) := by decide +kernel
theorem dX11_rows_1 : decode cX11_rows 1 = .ok (.iload_n 1, 1) := by decide +kernel
theorem dX11_rows_2 : decode cX11_rows 2 = .ok (.invokevirtual 237, 3) := by decide +kernel
theorem dX11_rows_5 : decode cX11_rows 5 = .ok (.ifCond .ne 21, 3) := by decide +kernel
theorem dX11_rows_8 : decode cX11_rows 8 = .ok (.aload_n 0, 1) := by decide +kernel
theorem dX11_rows_9 : decode cX11_rows 9 = .ok (.iload_n 2, 1) := by decide +kernel
theorem dX11_rows_10 : decode cX11_rows 10 = .ok (.invokevirtual 237, 3) := by decide +kernel
theorem dX11_rows_13 : decode cX11_rows 13 = .ok (.ifCond .ne 13, 3) := by decide +kernel
theorem dX11_rows_16 : decode cX11_rows 16 = .ok (.iload_n 3, 1) := by decide +kernel
theorem dX11_rows_17 : decode cX11_rows 17 = .ok (.ifCond .lt 9, 3) := by decide +kernel
theorem dX11_rows_20 : decode cX11_rows 20 = .ok (.iload_n 3, 1) := by decide +kernel
theorem dX11_rows_21 : decode cX11_rows 21 = .ok (.bipush 12, 2) := by decide +kernel
theorem dX11_rows_23 : decode cX11_rows 23 = .ok (.if_icmp .le 7, 3) := by decide +kernel
theorem dX11_rows_26 : decode cX11_rows 26 = .ok (.ldc2_w 265, 3) := by decide +kernel
theorem dX11_rows_29 : decode cX11_rows 29 = .ok (.lreturn, 1) := by decide +kernel
theorem dX11_rows_30 : decode cX11_rows 30 = .ok (.aload_n 0, 1) := by decide +kernel
theorem dX11_rows_31 : decode cX11_rows 31 = .ok (.getfield 76, 3) := by decide +kernel
theorem dX11_rows_34 : decode cX11_rows 34 = .ok (.aload_n 0, 1) := by decide +kernel
theorem dX11_rows_35 : decode cX11_rows 35 = .ok (.getfield 20, 3) := by decide +kernel
theorem dX11_rows_38 : decode cX11_rows 38 = .ok (.aload_n 0, 1) := by decide +kernel
theorem dX11_rows_39 : decode cX11_rows 39 = .ok (.getfield 36, 3) := by decide +kernel
theorem dX11_rows_42 : decode cX11_rows 42 = .ok (.invokevirtual 267, 3) := by decide +kernel
theorem dX11_rows_45 : decode cX11_rows 45 = .ok (.iconst 0, 1) := by decide +kernel
theorem dX11_rows_46 : decode cX11_rows 46 = .ok (.istore 4, 2) := by decide +kernel
theorem dX11_rows_48 : decode cX11_rows 48 = .ok (.iload 4, 2) := by decide +kernel
theorem dX11_rows_50 : decode cX11_rows 50 = .ok (.iload_n 3, 1) := by decide +kernel
theorem dX11_rows_51 : decode cX11_rows 51 = .ok (.if_icmp .ge 16, 3) := by decide +kernel
theorem dX11_rows_54 : decode cX11_rows 54 = .ok (.aload_n 0, 1) := by decide +kernel
theorem dX11_rows_55 : decode cX11_rows 55 = .ok (.getfield 76, 3) := by decide +kernel
theorem dX11_rows_58 : decode cX11_rows 58 = .ok (.invokevirtual 270, 3) := by decide +kernel
theorem dX11_rows_61 : decode cX11_rows 61 = .ok (.iinc 4 1, 3) := by decide +kernel
theorem dX11_rows_64 : decode cX11_rows 64 = .ok (.goto (-16), 3) := by decide +kernel
theorem dX11_rows_67 : decode cX11_rows 67 = .ok (.aload_n 0, 1) := by decide +kernel
theorem dX11_rows_68 : decode cX11_rows 68 = .ok (.getfield 76, 3) := by decide +kernel
theorem dX11_rows_71 : decode cX11_rows 71 = .ok (.iload_n 1, 1) := by decide +kernel
theorem dX11_rows_72 : decode cX11_rows 72 = .ok (.iload_n 2, 1) := by decide +kernel
theorem dX11_rows_73 : decode cX11_rows 73 = .ok (.invokevirtual 273, 3) := by decide +kernel
theorem dX11_rows_76 : decode cX11_rows 76 = .ok (.lreturn, 1) := by decide +kernel
theorem dX11_needed_0 : decode cX11_needed 0 = .ok (.aload_n 0, 1) := by decide +kernel
theorem dX11_needed_1 : decode cX11_needed 1 = .ok (.iload_n 1, 1) := by decide +kernel
theorem dX11_needed_2 : decode cX11_needed 2 = .ok (.invokevirtual 237, 3) := by decide +kernel
theorem dX11_needed_5 : decode cX11_needed 5 = .ok (.ifCond .ne 11, 3) := by decide +kernel
theorem dX11_needed_8 : decode cX11_needed 8 = .ok (.aload_n 0, 1) := by decide +kernel
theorem dX11_needed_9 : decode cX11_needed 9 = .ok (.iload_n 2, 1) := by decide +kernel
theorem dX11_needed_10 : decode cX11_needed 10 = .ok (.invokevirtual 237, 3) := by decide +kernel
theorem dX11_needed_13 : decode cX11_needed 13 = .ok (.ifCond .eq 6, 3) := by decide +kernel
theorem dX11_needed_16 : decode cX11_needed 16 = .ok (.bipush (-3), 2) := by decide +kernel
theorem dX11_needed_18 : decode cX11_needed 18 = .ok (.ireturn, 1) := by decide +kernel
theorem dX11_needed_19 : decode cX11_needed 19 = .ok (.aload_n 0, 1) := by decide +kernel
theorem dX11_needed_20 : decode cX11_needed 20 = .ok (.iload_n 1, 1) := by decide +kernel
theorem dX11_needed_21 : decode cX11_needed 21 = .ok (.iload_n 2, 1) := by decide +kernel
theorem dX11_needed_22 : decode cX11_needed 22 = .ok (.invokevirtual 240, 3) := by decide +kernel
theorem dX11_needed_25 : decode cX11_needed 25 = .ok (.ifCond .ge 5, 3) := by decide +kernel
theorem dX11_needed_28 : decode cX11_needed 28 = .ok (.iconst 0, 1) := by decide +kernel
theorem dX11_needed_29 : decode cX11_needed 29 = .ok (.ireturn, 1) := by decide +kernel
theorem dX11_needed_30 : decode cX11_needed 30 = .ok (.iconst 0, 1) := by decide +kernel
theorem dX11_needed_31 : decode cX11_needed 31 = .ok (.istore_n 3, 1) := by decide +kernel
theorem dX11_needed_32 : decode cX11_needed 32 = .ok (.iconst 0, 1) := by decide +kernel
theorem dX11_needed_33 : decode cX11_needed 33 = .ok (.istore 4, 2) := by decide +kernel
theorem dX11_needed_35 : decode cX11_needed 35 = .ok (.iload 4, 2) := by decide +kernel
theorem dX11_needed_37 : decode cX11_needed 37 = .ok (.aload_n 0, 1) := by decide +kernel
theorem dX11_needed_38 : decode cX11_needed 38 = .ok (.getfield 20, 3) := by decide +kernel
theorem dX11_needed_41 : decode cX11_needed 41 = .ok (.getfield 181, 3) := by decide +kernel
theorem dX11_needed_44 : decode cX11_needed 44 = .ok (.if_icmp .ge 46, 3) := by decide +kernel
theorem dX11_needed_47 : decode cX11_needed 47 = .ok (.aload_n 0, 1) := by decide +kernel
theorem dX11_needed_48 : decode cX11_needed 48 = .ok (.getfield 70, 3) := by decide +kernel
theorem dX11_needed_51 : decode cX11_needed 51 = .ok (.aload_n 0, 1) := by decide +kernel
theorem dX11_needed_52 : decode cX11_needed 52 = .ok (.getfield 20, 3) := by decide +kernel
theorem dX11_needed_55 : decode cX11_needed 55 = .ok (.aload_n 0, 1) := by decide +kernel
theorem dX11_needed_56 : decode cX11_needed 56 = .ok (.getfield 36, 3) := by decide +kernel
theorem dX11_needed_59 : decode cX11_needed 59 = .ok (.iconst (-1), 1) := by decide +kernel
theorem dX11_needed_60 : decode cX11_needed 60 = .ok (.iload 4, 2) := by decide +kernel
theorem dX11_needed_62 : decode cX11_needed 62 = .ok (.invokevirtual 252, 3) := by decide +kernel
theorem dX11_needed_65 : decode cX11_needed 65 = .ok (.aload_n 0, 1) := by decide +kernel
theorem dX11_needed_66 : decode cX11_needed 66 = .ok (.getfield 70, 3) := by decide +kernel
theorem dX11_needed_69 : decode cX11_needed 69 = .ok (.iload_n 1, 1) := by decide +kernel
theorem dX11_needed_70 : decode cX11_needed 70 = .ok (.iload_n 2, 1) := by decide +kernel
theorem dX11_needed_71 : decode cX11_needed 71 = .ok (.invokevirtual 256, 3) := by decide +kernel
theorem dX11_needed_74 : decode cX11_needed 74 = .ok (.ifCond .ge 10, 3) := by decide +kernel
theorem dX11_needed_77 : decode cX11_needed 77 = .ok (.iload_n 3, 1) := by decide +kernel
theorem dX11_needed_78 : decode cX11_needed 78 = .ok (.iconst 1, 1) := by decide +kernel
theorem dX11_needed_79 : decode cX11_needed 79 = .ok (.iload 4, 2) := by decide +kernel
theorem dX11_needed_81 : decode cX11_needed 81 = .ok (.ishl, 1) := by decide +kernel
theorem dX11_needed_82 : decode cX11_needed 82 = .ok (.ior, 1) := by decide +kernel
theorem dX11_needed_83 : decode cX11_needed 83 = .ok (.istore_n 3, 1) := by decide +kernel
theorem dX11_needed_84 : decode cX11_needed 84 = .ok (.iinc 4 1, 3) := by decide +kernel
theorem dX11_needed_87 : decode cX11_needed 87 = .ok (.goto (-52), 3) := by decide +kernel
theorem dX11_needed_90 : decode cX11_needed 90 = .ok (.iload_n 3, 1) := by decide +kernel
theorem dX11_needed_91 : decode cX11_needed 91 = .ok (.ireturn, 1) := by decide +kernel
theorem dX11_tellings_0 : decode cX11_tellings 0 = .ok (.aload_n 0, 1) := by decide +kernel
theorem dX11_tellings_1 : decode cX11_tellings 1 = .ok (.iload_n 1, 1) := by decide +kernel
theorem dX11_tellings_2 : decode cX11_tellings 2 = .ok (.invokevirtual 237, 3) := by decide +kernel
theorem dX11_tellings_5 : decode cX11_tellings 5 = .ok (.ifCond .ne 11, 3) := by decide +kernel
theorem dX11_tellings_8 : decode cX11_tellings 8 = .ok (.aload_n 0, 1) := by decide +kernel
theorem dX11_tellings_9 : decode cX11_tellings 9 = .ok (.iload_n 2, 1) := by decide +kernel
theorem dX11_tellings_10 : decode cX11_tellings 10 = .ok (.invokevirtual 237, 3) := by decide +kernel
theorem dX11_tellings_13 : decode cX11_tellings 13 = .ok (.ifCond .eq 6, 3) := by decide +kernel
theorem dX11_tellings_16 : decode cX11_tellings 16 = .ok (.bipush (-3), 2) := by decide +kernel
theorem dX11_tellings_18 : decode cX11_tellings 18 = .ok (.ireturn, 1) := by decide +kernel
theorem dX11_tellings_19 : decode cX11_tellings 19 = .ok (.aload_n 0, 1) := by decide +kernel
theorem dX11_tellings_20 : decode cX11_tellings 20 = .ok (.getfield 70, 3) := by decide +kernel
theorem dX11_tellings_23 : decode cX11_tellings 23 = .ok (.aload_n 0, 1) := by decide +kernel
theorem dX11_tellings_24 : decode cX11_tellings 24 = .ok (.getfield 20, 3) := by decide +kernel
theorem dX11_tellings_27 : decode cX11_tellings 27 = .ok (.aload_n 0, 1) := by decide +kernel
theorem dX11_tellings_28 : decode cX11_tellings 28 = .ok (.getfield 36, 3) := by decide +kernel
theorem dX11_tellings_31 : decode cX11_tellings 31 = .ok (.iload_n 1, 1) := by decide +kernel
theorem dX11_tellings_32 : decode cX11_tellings 32 = .ok (.iload_n 2, 1) := by decide +kernel
theorem dX11_tellings_33 : decode cX11_tellings 33 = .ok (.invokevirtual 277, 3) := by decide +kernel
theorem dX11_tellings_36 : decode cX11_tellings 36 = .ok (.istore_n 3, 1) := by decide +kernel
theorem dX11_tellings_37 : decode cX11_tellings 37 = .ok (.aload_n 0, 1) := by decide +kernel
theorem dX11_tellings_38 : decode cX11_tellings 38 = .ok (.getfield 70, 3) := by decide +kernel
theorem dX11_tellings_41 : decode cX11_tellings 41 = .ok (.invokevirtual 110, 3) := by decide +kernel
theorem dX11_tellings_44 : decode cX11_tellings 44 = .ok (.iload_n 3, 1) := by decide +kernel
theorem dX11_tellings_45 : decode cX11_tellings 45 = .ok (.ireturn, 1) := by decide +kernel
theorem dX11_can_0 : decode cX11_can 0 = .ok (.aload_n 0, 1) := by decide +kernel
theorem dX11_can_1 : decode cX11_can 1 = .ok (.iload_n 1, 1) := by decide +kernel
theorem dX11_can_2 : decode cX11_can 2 = .ok (.invokevirtual 149, 3) := by decide +kernel
theorem dX11_can_5 : decode cX11_can 5 = .ok (.ifCond .eq 6, 3) := by decide +kernel
theorem dX11_can_8 : decode cX11_can 8 = .ok (.bipush (-2), 2) := by decide +kernel
theorem dX11_can_10 : decode cX11_can 10 = .ok (.ireturn, 1) := by decide +kernel
theorem dX11_can_11 : decode cX11_can 11 = .ok (.aload_n 0, 1) := by decide +kernel
theorem dX11_can_12 : decode cX11_can 12 = .ok (.getfield 66, 3) := by decide +kernel
theorem dX11_can_15 : decode cX11_can 15 = .ok (.aload_n 0, 1) := by decide +kernel
theorem dX11_can_16 : decode cX11_can 16 = .ok (.getfield 20, 3) := by decide +kernel
theorem dX11_can_19 : decode cX11_can 19 = .ok (.aload_n 0, 1) := by decide +kernel
theorem dX11_can_20 : decode cX11_can 20 = .ok (.getfield 36, 3) := by decide +kernel
theorem dX11_can_23 : decode cX11_can 23 = .ok (.iconst (-1), 1) := by decide +kernel
theorem dX11_can_24 : decode cX11_can 24 = .ok (.iconst (-1), 1) := by decide +kernel
theorem dX11_can_25 : decode cX11_can 25 = .ok (.invokevirtual 252, 3) := by decide +kernel
theorem dX11_can_28 : decode cX11_can 28 = .ok (.aload_n 0, 1) := by decide +kernel
theorem dX11_can_29 : decode cX11_can 29 = .ok (.getfield 66, 3) := by decide +kernel
theorem dX11_can_32 : decode cX11_can 32 = .ok (.invokevirtual 281, 3) := by decide +kernel
theorem dX11_can_35 : decode cX11_can 35 = .ok (.istore_n 2, 1) := by decide +kernel
theorem dX11_can_36 : decode cX11_can 36 = .ok (.iconst 0, 1) := by decide +kernel
theorem dX11_can_37 : decode cX11_can 37 = .ok (.istore_n 3, 1) := by decide +kernel
theorem dX11_can_38 : decode cX11_can 38 = .ok (.iconst 0, 1) := by decide +kernel
theorem dX11_can_39 : decode cX11_can 39 = .ok (.istore 4, 2) := by decide +kernel
theorem dX11_can_41 : decode cX11_can 41 = .ok (.iload 4, 2) := by decide +kernel
theorem dX11_can_43 : decode cX11_can 43 = .ok (.iload_n 2, 1) := by decide +kernel
theorem dX11_can_44 : decode cX11_can 44 = .ok (.if_icmp .ge 29, 3) := by decide +kernel
theorem dX11_can_47 : decode cX11_can 47 = .ok (.iload_n 3, 1) := by decide +kernel
theorem dX11_can_48 : decode cX11_can 48 = .ok (.aload_n 0, 1) := by decide +kernel
theorem dX11_can_49 : decode cX11_can 49 = .ok (.getfield 20, 3) := by decide +kernel
theorem dX11_can_52 : decode cX11_can 52 = .ok (.aload_n 0, 1) := by decide +kernel
theorem dX11_can_53 : decode cX11_can 53 = .ok (.getfield 66, 3) := by decide +kernel
theorem dX11_can_56 : decode cX11_can 56 = .ok (.iload 4, 2) := by decide +kernel
theorem dX11_can_58 : decode cX11_can 58 = .ok (.invokevirtual 285, 3) := by decide +kernel
theorem dX11_can_61 : decode cX11_can 61 = .ok (.iload_n 1, 1) := by decide +kernel
theorem dX11_can_62 : decode cX11_can 62 = .ok (.invokevirtual 170, 3) := by decide +kernel
theorem dX11_can_65 : decode cX11_can 65 = .ok (.ior, 1) := by decide +kernel
theorem dX11_can_66 : decode cX11_can 66 = .ok (.istore_n 3, 1) := by decide +kernel
theorem dX11_can_67 : decode cX11_can 67 = .ok (.iinc 4 1, 3) := by decide +kernel
theorem dX11_can_70 : decode cX11_can 70 = .ok (.goto (-29), 3) := by decide +kernel
theorem dX11_can_73 : decode cX11_can 73 = .ok (.iload_n 3, 1) := by decide +kernel
theorem dX11_can_74 : decode cX11_can 74 = .ok (.ireturn, 1) := by decide +kernel
theorem dX11_stands_0 : decode cX11_stands 0 = .ok (.aload_n 0, 1) := by decide +kernel
theorem dX11_stands_1 : decode cX11_stands 1 = .ok (.getfield 66, 3) := by decide +kernel
theorem dX11_stands_4 : decode cX11_stands 4 = .ok (.aload_n 0, 1) := by decide +kernel
theorem dX11_stands_5 : decode cX11_stands 5 = .ok (.getfield 20, 3) := by decide +kernel
theorem dX11_stands_8 : decode cX11_stands 8 = .ok (.aload_n 0, 1) := by decide +kernel
theorem dX11_stands_9 : decode cX11_stands 9 = .ok (.getfield 36, 3) := by decide +kernel
theorem dX11_stands_12 : decode cX11_stands 12 = .ok (.iconst (-1), 1) := by decide +kernel
theorem dX11_stands_13 : decode cX11_stands 13 = .ok (.iconst (-1), 1) := by decide +kernel
theorem dX11_stands_14 : decode cX11_stands 14 = .ok (.invokevirtual 252, 3) := by decide +kernel
theorem dX11_stands_17 : decode cX11_stands 17 = .ok (.aload_n 0, 1) := by decide +kernel
theorem dX11_stands_18 : decode cX11_stands 18 = .ok (.getfield 66, 3) := by decide +kernel
theorem dX11_stands_21 : decode cX11_stands 21 = .ok (.invokevirtual 281, 3) := by decide +kernel
theorem dX11_stands_24 : decode cX11_stands 24 = .ok (.ireturn, 1) := by decide +kernel
theorem dX11_most_0 : decode cX11_most 0 = .ok (.aload_n 0, 1) := by decide +kernel
theorem dX11_most_1 : decode cX11_most 1 = .ok (.getfield 66, 3) := by decide +kernel
theorem dX11_most_4 : decode cX11_most 4 = .ok (.aload_n 0, 1) := by decide +kernel
theorem dX11_most_5 : decode cX11_most 5 = .ok (.getfield 20, 3) := by decide +kernel
theorem dX11_most_8 : decode cX11_most 8 = .ok (.aload_n 0, 1) := by decide +kernel
theorem dX11_most_9 : decode cX11_most 9 = .ok (.getfield 36, 3) := by decide +kernel
theorem dX11_most_12 : decode cX11_most 12 = .ok (.iconst (-1), 1) := by decide +kernel
theorem dX11_most_13 : decode cX11_most 13 = .ok (.iconst (-1), 1) := by decide +kernel
theorem dX11_most_14 : decode cX11_most 14 = .ok (.invokevirtual 252, 3) := by decide +kernel
theorem dX11_most_17 : decode cX11_most 17 = .ok (.aload_n 0, 1) := by decide +kernel
theorem dX11_most_18 : decode cX11_most 18 = .ok (.getfield 66, 3) := by decide +kernel
theorem dX11_most_21 : decode cX11_most 21 = .ok (.invokevirtual 281, 3) := by decide +kernel
theorem dX11_most_24 : decode cX11_most 24 = .ok (.istore_n 1, 1) := by decide +kernel
theorem dX11_most_25 : decode cX11_most 25 = .ok (.iconst 0, 1) := by decide +kernel
theorem dX11_most_26 : decode cX11_most 26 = .ok (.istore_n 2, 1) := by decide +kernel
theorem dX11_most_27 : decode cX11_most 27 = .ok (.iconst 0, 1) := by decide +kernel
theorem dX11_most_28 : decode cX11_most 28 = .ok (.istore_n 3, 1) := by decide +kernel
theorem dX11_most_29 : decode cX11_most 29 = .ok (.iload_n 3, 1) := by decide +kernel
theorem dX11_most_30 : decode cX11_most 30 = .ok (.iload_n 1, 1) := by decide +kernel
theorem dX11_most_31 : decode cX11_most 31 = .ok (.if_icmp .ge 29, 3) := by decide +kernel
theorem dX11_most_34 : decode cX11_most 34 = .ok (.iload_n 2, 1) := by decide +kernel
theorem dX11_most_35 : decode cX11_most 35 = .ok (.aload_n 0, 1) := by decide +kernel
theorem dX11_most_36 : decode cX11_most 36 = .ok (.getfield 20, 3) := by decide +kernel
theorem dX11_most_39 : decode cX11_most 39 = .ok (.aload_n 0, 1) := by decide +kernel
theorem dX11_most_40 : decode cX11_most 40 = .ok (.getfield 66, 3) := by decide +kernel
theorem dX11_most_43 : decode cX11_most 43 = .ok (.iload_n 3, 1) := by decide +kernel
theorem dX11_most_44 : decode cX11_most 44 = .ok (.invokevirtual 285, 3) := by decide +kernel
theorem dX11_most_47 : decode cX11_most 47 = .ok (.invokevirtual 201, 3) := by decide +kernel
theorem dX11_most_50 : decode cX11_most 50 = .ok (.invokestatic 288, 3) := by decide +kernel
theorem dX11_most_53 : decode cX11_most 53 = .ok (.istore_n 2, 1) := by decide +kernel
theorem dX11_most_54 : decode cX11_most 54 = .ok (.iinc 3 1, 3) := by decide +kernel
theorem dX11_most_57 : decode cX11_most 57 = .ok (.goto (-28), 3) := by decide +kernel
theorem dX11_most_60 : decode cX11_most 60 = .ok (.iload_n 2, 1) := by decide +kernel
theorem dX11_most_61 : decode cX11_most 61 = .ok (.ireturn, 1) := by decide +kernel
theorem dX11_secret_0 : decode cX11_secret 0 = .ok (.aload_n 0, 1) := by decide +kernel
theorem dX11_secret_1 : decode cX11_secret 1 = .ok (.iload_n 1, 1) := by decide +kernel
theorem dX11_secret_2 : decode cX11_secret 2 = .ok (.invokevirtual 153, 3) := by decide +kernel
theorem dX11_secret_5 : decode cX11_secret 5 = .ok (.ifCond .eq 6, 3) := by decide +kernel
theorem dX11_secret_8 : decode cX11_secret 8 = .ok (.bipush (-2), 2) := by decide +kernel
theorem dX11_secret_10 : decode cX11_secret 10 = .ok (.ireturn, 1) := by decide +kernel
theorem dX11_secret_11 : decode cX11_secret 11 = .ok (.iconst 0, 1) := by decide +kernel
theorem dX11_secret_12 : decode cX11_secret 12 = .ok (.istore_n 2, 1) := by decide +kernel
theorem dX11_secret_13 : decode cX11_secret 13 = .ok (.iconst 0, 1) := by decide +kernel
theorem dX11_secret_14 : decode cX11_secret 14 = .ok (.istore_n 3, 1) := by decide +kernel
theorem dX11_secret_15 : decode cX11_secret 15 = .ok (.iload_n 3, 1) := by decide +kernel
theorem dX11_secret_16 : decode cX11_secret 16 = .ok (.iconst 2, 1) := by decide +kernel
theorem dX11_secret_17 : decode cX11_secret 17 = .ok (.if_icmp .ge 57, 3) := by decide +kernel
theorem dX11_secret_20 : decode cX11_secret 20 = .ok (.aload_n 0, 1) := by decide +kernel
theorem dX11_secret_21 : decode cX11_secret 21 = .ok (.getfield 20, 3) := by decide +kernel
theorem dX11_secret_24 : decode cX11_secret 24 = .ok (.aload_n 0, 1) := by decide +kernel
theorem dX11_secret_25 : decode cX11_secret 25 = .ok (.getfield 36, 3) := by decide +kernel
theorem dX11_secret_28 : decode cX11_secret 28 = .ok (.getfield 127, 3) := by decide +kernel
theorem dX11_secret_31 : decode cX11_secret 31 = .ok (.aload_n 0, 1) := by decide +kernel
theorem dX11_secret_32 : decode cX11_secret 32 = .ok (.getfield 36, 3) := by decide +kernel
theorem dX11_secret_35 : decode cX11_secret 35 = .ok (.getfield 133, 3) := by decide +kernel
theorem dX11_secret_38 : decode cX11_secret 38 = .ok (.iload_n 3, 1) := by decide +kernel
theorem dX11_secret_39 : decode cX11_secret 39 = .ok (.iload_n 1, 1) := by decide +kernel
theorem dX11_secret_40 : decode cX11_secret 40 = .ok (.invokevirtual 177, 3) := by decide +kernel
theorem dX11_secret_43 : decode cX11_secret 43 = .ok (.istore 4, 2) := by decide +kernel
theorem dX11_secret_45 : decode cX11_secret 45 = .ok (.iload 4, 2) := by decide +kernel
theorem dX11_secret_47 : decode cX11_secret 47 = .ok (.ifCond .lt 21, 3) := by decide +kernel
theorem dX11_secret_50 : decode cX11_secret 50 = .ok (.iload 4, 2) := by decide +kernel
theorem dX11_secret_52 : decode cX11_secret 52 = .ok (.iconst 1, 1) := by decide +kernel
theorem dX11_secret_53 : decode cX11_secret 53 = .ok (.iload_n 3, 1) := by decide +kernel
theorem dX11_secret_54 : decode cX11_secret 54 = .ok (.isub, 1) := by decide +kernel
theorem dX11_secret_55 : decode cX11_secret 55 = .ok (.iload_n 1, 1) := by decide +kernel
theorem dX11_secret_56 : decode cX11_secret 56 = .ok (.invokestatic 156, 3) := by decide +kernel
theorem dX11_secret_59 : decode cX11_secret 59 = .ok (.ifCond .ne 9, 3) := by decide +kernel
theorem dX11_secret_62 : decode cX11_secret 62 = .ok (.iload_n 2, 1) := by decide +kernel
theorem dX11_secret_63 : decode cX11_secret 63 = .ok (.iconst 1, 1) := by decide +kernel
theorem dX11_secret_64 : decode cX11_secret 64 = .ok (.iload_n 3, 1) := by decide +kernel
theorem dX11_secret_65 : decode cX11_secret 65 = .ok (.ishl, 1) := by decide +kernel
theorem dX11_secret_66 : decode cX11_secret 66 = .ok (.ior, 1) := by decide +kernel
theorem dX11_secret_67 : decode cX11_secret 67 = .ok (.istore_n 2, 1) := by decide +kernel
theorem dX11_secret_68 : decode cX11_secret 68 = .ok (.iinc 3 1, 3) := by decide +kernel
theorem dX11_secret_71 : decode cX11_secret 71 = .ok (.goto (-56), 3) := by decide +kernel
theorem dX11_secret_74 : decode cX11_secret 74 = .ok (.iload_n 2, 1) := by decide +kernel
theorem dX11_secret_75 : decode cX11_secret 75 = .ok (.ireturn, 1) := by decide +kernel
theorem dX11_overhears_0 : decode cX11_overhears 0 = .ok (.aload_n 0, 1) := by decide +kernel
theorem dX11_overhears_1 : decode cX11_overhears 1 = .ok (.iload_n 1, 1) := by decide +kernel
theorem dX11_overhears_2 : decode cX11_overhears 2 = .ok (.invokevirtual 149, 3) := by decide +kernel
theorem dX11_overhears_5 : decode cX11_overhears 5 = .ok (.ifCond .eq 6, 3) := by decide +kernel
theorem dX11_overhears_8 : decode cX11_overhears 8 = .ok (.bipush (-2), 2) := by decide +kernel
theorem dX11_overhears_10 : decode cX11_overhears 10 = .ok (.ireturn, 1) := by decide +kernel
theorem dX11_overhears_11 : decode cX11_overhears 11 = .ok (.aload_n 0, 1) := by decide +kernel
theorem dX11_overhears_12 : decode cX11_overhears 12 = .ok (.getfield 70, 3) := by decide +kernel
theorem dX11_overhears_15 : decode cX11_overhears 15 = .ok (.aload_n 0, 1) := by decide +kernel
theorem dX11_overhears_16 : decode cX11_overhears 16 = .ok (.getfield 20, 3) := by decide +kernel
theorem dX11_overhears_19 : decode cX11_overhears 19 = .ok (.aload_n 0, 1) := by decide +kernel
theorem dX11_overhears_20 : decode cX11_overhears 20 = .ok (.getfield 36, 3) := by decide +kernel
theorem dX11_overhears_23 : decode cX11_overhears 23 = .ok (.iload_n 1, 1) := by decide +kernel
theorem dX11_overhears_24 : decode cX11_overhears 24 = .ok (.iconst (-1), 1) := by decide +kernel
theorem dX11_overhears_25 : decode cX11_overhears 25 = .ok (.invokevirtual 252, 3) := by decide +kernel
theorem dX11_overhears_28 : decode cX11_overhears 28 = .ok (.aload_n 0, 1) := by decide +kernel
theorem dX11_overhears_29 : decode cX11_overhears 29 = .ok (.getfield 70, 3) := by decide +kernel
theorem dX11_overhears_32 : decode cX11_overhears 32 = .ok (.invokevirtual 281, 3) := by decide +kernel
theorem dX11_overhears_35 : decode cX11_overhears 35 = .ok (.istore_n 2, 1) := by decide +kernel
theorem dX11_overhears_36 : decode cX11_overhears 36 = .ok (.iconst 0, 1) := by decide +kernel
theorem dX11_overhears_37 : decode cX11_overhears 37 = .ok (.istore_n 3, 1) := by decide +kernel
theorem dX11_overhears_38 : decode cX11_overhears 38 = .ok (.iconst 0, 1) := by decide +kernel
theorem dX11_overhears_39 : decode cX11_overhears 39 = .ok (.istore 4, 2) := by decide +kernel
theorem dX11_overhears_41 : decode cX11_overhears 41 = .ok (.iload 4, 2) := by decide +kernel
theorem dX11_overhears_43 : decode cX11_overhears 43 = .ok (.iload_n 2, 1) := by decide +kernel
theorem dX11_overhears_44 : decode cX11_overhears 44 = .ok (.if_icmp .ge 29, 3) := by decide +kernel
theorem dX11_overhears_47 : decode cX11_overhears 47 = .ok (.iload_n 3, 1) := by decide +kernel
theorem dX11_overhears_48 : decode cX11_overhears 48 = .ok (.aload_n 0, 1) := by decide +kernel
theorem dX11_overhears_49 : decode cX11_overhears 49 = .ok (.getfield 20, 3) := by decide +kernel
theorem dX11_overhears_52 : decode cX11_overhears 52 = .ok (.aload_n 0, 1) := by decide +kernel
theorem dX11_overhears_53 : decode cX11_overhears 53 = .ok (.getfield 70, 3) := by decide +kernel
theorem dX11_overhears_56 : decode cX11_overhears 56 = .ok (.iload 4, 2) := by decide +kernel
theorem dX11_overhears_58 : decode cX11_overhears 58 = .ok (.invokevirtual 285, 3) := by decide +kernel
theorem dX11_overhears_61 : decode cX11_overhears 61 = .ok (.iload_n 1, 1) := by decide +kernel
theorem dX11_overhears_62 : decode cX11_overhears 62 = .ok (.invokevirtual 293, 3) := by decide +kernel
theorem dX11_overhears_65 : decode cX11_overhears 65 = .ok (.ior, 1) := by decide +kernel
theorem dX11_overhears_66 : decode cX11_overhears 66 = .ok (.istore_n 3, 1) := by decide +kernel
theorem dX11_overhears_67 : decode cX11_overhears 67 = .ok (.iinc 4 1, 3) := by decide +kernel
theorem dX11_overhears_70 : decode cX11_overhears 70 = .ok (.goto (-29), 3) := by decide +kernel
theorem dX11_overhears_73 : decode cX11_overhears 73 = .ok (.iload_n 3, 1) := by decide +kernel
theorem dX11_overhears_74 : decode cX11_overhears 74 = .ok (.aload_n 0, 1) := by decide +kernel
theorem dX11_overhears_75 : decode cX11_overhears 75 = .ok (.getfield 20, 3) := by decide +kernel
theorem dX11_overhears_78 : decode cX11_overhears 78 = .ok (.aload_n 0, 1) := by decide +kernel
theorem dX11_overhears_79 : decode cX11_overhears 79 = .ok (.getfield 36, 3) := by decide +kernel
theorem dX11_overhears_82 : decode cX11_overhears 82 = .ok (.getfield 127, 3) := by decide +kernel
theorem dX11_overhears_85 : decode cX11_overhears 85 = .ok (.iload_n 1, 1) := by decide +kernel
theorem dX11_overhears_86 : decode cX11_overhears 86 = .ok (.invokevirtual 293, 3) := by decide +kernel
theorem dX11_overhears_89 : decode cX11_overhears 89 = .ok (.iconst (-1), 1) := by decide +kernel
theorem dX11_overhears_90 : decode cX11_overhears 90 = .ok (.ixor, 1) := by decide +kernel
theorem dX11_overhears_91 : decode cX11_overhears 91 = .ok (.iand, 1) := by decide +kernel
theorem dX11_overhears_92 : decode cX11_overhears 92 = .ok (.ireturn, 1) := by decide +kernel
theorem dX11_told_0 : decode cX11_told 0 = .ok (.aload_n 0, 1) := by decide +kernel
theorem dX11_told_1 : decode cX11_told 1 = .ok (.iload_n 1, 1) := by decide +kernel
theorem dX11_told_2 : decode cX11_told 2 = .ok (.iload_n 2, 1) := by decide +kernel
theorem dX11_told_3 : decode cX11_told 3 = .ok (.iload_n 3, 1) := by decide +kernel
theorem dX11_told_4 : decode cX11_told 4 = .ok (.invokevirtual 296, 3) := by decide +kernel
theorem dX11_told_7 : decode cX11_told 7 = .ok (.istore 4, 2) := by decide +kernel
theorem dX11_told_9 : decode cX11_told 9 = .ok (.iload 4, 2) := by decide +kernel
theorem dX11_told_11 : decode cX11_told 11 = .ok (.ifCond .eq 6, 3) := by decide +kernel
theorem dX11_told_14 : decode cX11_told 14 = .ok (.iload 4, 2) := by decide +kernel
theorem dX11_told_16 : decode cX11_told 16 = .ok (.ireturn, 1) := by decide +kernel
theorem dX11_told_17 : decode cX11_told 17 = .ok (.aload_n 0, 1) := by decide +kernel
theorem dX11_told_18 : decode cX11_told 18 = .ok (.getfield 97, 3) := by decide +kernel
theorem dX11_told_21 : decode cX11_told 21 = .ok (.aload_n 0, 1) := by decide +kernel
theorem dX11_told_22 : decode cX11_told 22 = .ok (.getfield 20, 3) := by decide +kernel
theorem dX11_told_25 : decode cX11_told 25 = .ok (.aload_n 0, 1) := by decide +kernel
theorem dX11_told_26 : decode cX11_told 26 = .ok (.getfield 36, 3) := by decide +kernel
theorem dX11_told_29 : decode cX11_told 29 = .ok (.aload_n 0, 1) := by decide +kernel
theorem dX11_told_30 : decode cX11_told 30 = .ok (.getfield 52, 3) := by decide +kernel
theorem dX11_told_33 : decode cX11_told 33 = .ok (.iload_n 1, 1) := by decide +kernel
theorem dX11_told_34 : decode cX11_told 34 = .ok (.aaload, 1) := by decide +kernel
theorem dX11_told_35 : decode cX11_told 35 = .ok (.iload_n 2, 1) := by decide +kernel
theorem dX11_told_36 : decode cX11_told 36 = .ok (.iload_n 3, 1) := by decide +kernel
theorem dX11_told_37 : decode cX11_told 37 = .ok (.invokevirtual 299, 3) := by decide +kernel
theorem dX11_told_40 : decode cX11_told 40 = .ok (.aload_n 0, 1) := by decide +kernel
theorem dX11_told_41 : decode cX11_told 41 = .ok (.getfield 97, 3) := by decide +kernel
theorem dX11_told_44 : decode cX11_told 44 = .ok (.getfield 303, 3) := by decide +kernel
theorem dX11_told_47 : decode cX11_told 47 = .ok (.ireturn, 1) := by decide +kernel
theorem dX11_whom_0 : decode cX11_whom 0 = .ok (.aload_n 0, 1) := by decide +kernel
theorem dX11_whom_1 : decode cX11_whom 1 = .ok (.iload_n 1, 1) := by decide +kernel
theorem dX11_whom_2 : decode cX11_whom 2 = .ok (.iload_n 2, 1) := by decide +kernel
theorem dX11_whom_3 : decode cX11_whom 3 = .ok (.iload_n 3, 1) := by decide +kernel
theorem dX11_whom_4 : decode cX11_whom 4 = .ok (.invokevirtual 296, 3) := by decide +kernel
theorem dX11_whom_7 : decode cX11_whom 7 = .ok (.istore 5, 2) := by decide +kernel
theorem dX11_whom_9 : decode cX11_whom 9 = .ok (.iload 5, 2) := by decide +kernel
theorem dX11_whom_11 : decode cX11_whom 11 = .ok (.ifCond .eq 6, 3) := by decide +kernel
theorem dX11_whom_14 : decode cX11_whom 14 = .ok (.iload 5, 2) := by decide +kernel
theorem dX11_whom_16 : decode cX11_whom 16 = .ok (.ireturn, 1) := by decide +kernel
theorem dX11_whom_17 : decode cX11_whom 17 = .ok (.iload 4, 2) := by decide +kernel
theorem dX11_whom_19 : decode cX11_whom 19 = .ok (.ifCond .ge 6, 3) := by decide +kernel
theorem dX11_whom_22 : decode cX11_whom 22 = .ok (.bipush (-3), 2) := by decide +kernel
theorem dX11_whom_24 : decode cX11_whom 24 = .ok (.ireturn, 1) := by decide +kernel
theorem dX11_whom_25 : decode cX11_whom 25 = .ok (.aload_n 0, 1) := by decide +kernel
theorem dX11_whom_26 : decode cX11_whom 26 = .ok (.getfield 97, 3) := by decide +kernel
theorem dX11_whom_29 : decode cX11_whom 29 = .ok (.aload_n 0, 1) := by decide +kernel
theorem dX11_whom_30 : decode cX11_whom 30 = .ok (.getfield 20, 3) := by decide +kernel
theorem dX11_whom_33 : decode cX11_whom 33 = .ok (.aload_n 0, 1) := by decide +kernel
theorem dX11_whom_34 : decode cX11_whom 34 = .ok (.getfield 36, 3) := by decide +kernel
theorem dX11_whom_37 : decode cX11_whom 37 = .ok (.aload_n 0, 1) := by decide +kernel
theorem dX11_whom_38 : decode cX11_whom 38 = .ok (.getfield 52, 3) := by decide +kernel
theorem dX11_whom_41 : decode cX11_whom 41 = .ok (.iload_n 1, 1) := by decide +kernel
theorem dX11_whom_42 : decode cX11_whom 42 = .ok (.aaload, 1) := by decide +kernel
theorem dX11_whom_43 : decode cX11_whom 43 = .ok (.iload_n 2, 1) := by decide +kernel
theorem dX11_whom_44 : decode cX11_whom 44 = .ok (.iload_n 3, 1) := by decide +kernel
theorem dX11_whom_45 : decode cX11_whom 45 = .ok (.invokevirtual 299, 3) := by decide +kernel
theorem dX11_whom_48 : decode cX11_whom 48 = .ok (.aload_n 0, 1) := by decide +kernel
theorem dX11_whom_49 : decode cX11_whom 49 = .ok (.getfield 97, 3) := by decide +kernel
theorem dX11_whom_52 : decode cX11_whom 52 = .ok (.getfield 303, 3) := by decide +kernel
theorem dX11_whom_55 : decode cX11_whom 55 = .ok (.ifCond .eq 17, 3) := by decide +kernel
theorem dX11_whom_58 : decode cX11_whom 58 = .ok (.iload 4, 2) := by decide +kernel
theorem dX11_whom_60 : decode cX11_whom 60 = .ok (.aload_n 0, 1) := by decide +kernel
theorem dX11_whom_61 : decode cX11_whom 61 = .ok (.getfield 52, 3) := by decide +kernel
theorem dX11_whom_64 : decode cX11_whom 64 = .ok (.iload_n 1, 1) := by decide +kernel
theorem dX11_whom_65 : decode cX11_whom 65 = .ok (.aaload, 1) := by decide +kernel
theorem dX11_whom_66 : decode cX11_whom 66 = .ok (.getfield 306, 3) := by decide +kernel
theorem dX11_whom_69 : decode cX11_whom 69 = .ok (.if_icmp .lt 5, 3) := by decide +kernel
theorem dX11_whom_72 : decode cX11_whom 72 = .ok (.iconst (-1), 1) := by decide +kernel
theorem dX11_whom_73 : decode cX11_whom 73 = .ok (.ireturn, 1) := by decide +kernel
theorem dX11_whom_74 : decode cX11_whom 74 = .ok (.aload_n 0, 1) := by decide +kernel
theorem dX11_whom_75 : decode cX11_whom 75 = .ok (.getfield 97, 3) := by decide +kernel
theorem dX11_whom_78 : decode cX11_whom 78 = .ok (.getfield 309, 3) := by decide +kernel
theorem dX11_whom_81 : decode cX11_whom 81 = .ok (.iload 4, 2) := by decide +kernel
theorem dX11_whom_83 : decode cX11_whom 83 = .ok (.ishr, 1) := by decide +kernel
theorem dX11_whom_84 : decode cX11_whom 84 = .ok (.iconst 1, 1) := by decide +kernel
theorem dX11_whom_85 : decode cX11_whom 85 = .ok (.iand, 1) := by decide +kernel
theorem dX11_whom_86 : decode cX11_whom 86 = .ok (.ireturn, 1) := by decide +kernel
theorem dX11_surely_0 : decode cX11_surely 0 = .ok (.aload_n 0, 1) := by decide +kernel
theorem dX11_surely_1 : decode cX11_surely 1 = .ok (.iload 4, 2) := by decide +kernel
theorem dX11_surely_3 : decode cX11_surely 3 = .ok (.invokevirtual 149, 3) := by decide +kernel
theorem dX11_surely_6 : decode cX11_surely 6 = .ok (.ifCond .eq 6, 3) := by decide +kernel
theorem dX11_surely_9 : decode cX11_surely 9 = .ok (.bipush (-2), 2) := by decide +kernel
theorem dX11_surely_11 : decode cX11_surely 11 = .ok (.ireturn, 1) := by decide +kernel
theorem dX11_surely_12 : decode cX11_surely 12 = .ok (.aload_n 0, 1) := by decide +kernel
theorem dX11_surely_13 : decode cX11_surely 13 = .ok (.iload_n 1, 1) := by decide +kernel
theorem dX11_surely_14 : decode cX11_surely 14 = .ok (.iload_n 2, 1) := by decide +kernel
theorem dX11_surely_15 : decode cX11_surely 15 = .ok (.iload_n 3, 1) := by decide +kernel
theorem dX11_surely_16 : decode cX11_surely 16 = .ok (.invokevirtual 296, 3) := by decide +kernel
theorem dX11_surely_19 : decode cX11_surely 19 = .ok (.istore 5, 2) := by decide +kernel
theorem dX11_surely_21 : decode cX11_surely 21 = .ok (.iload 5, 2) := by decide +kernel
theorem dX11_surely_23 : decode cX11_surely 23 = .ok (.ifCond .eq 6, 3) := by decide +kernel
theorem dX11_surely_26 : decode cX11_surely 26 = .ok (.iload 5, 2) := by decide +kernel
theorem dX11_surely_28 : decode cX11_surely 28 = .ok (.ireturn, 1) := by decide +kernel
theorem dX11_surely_29 : decode cX11_surely 29 = .ok (.aload_n 0, 1) := by decide +kernel
theorem dX11_surely_30 : decode cX11_surely 30 = .ok (.getfield 97, 3) := by decide +kernel
theorem dX11_surely_33 : decode cX11_surely 33 = .ok (.aload_n 0, 1) := by decide +kernel
theorem dX11_surely_34 : decode cX11_surely 34 = .ok (.getfield 20, 3) := by decide +kernel
theorem dX11_surely_37 : decode cX11_surely 37 = .ok (.aload_n 0, 1) := by decide +kernel
theorem dX11_surely_38 : decode cX11_surely 38 = .ok (.getfield 36, 3) := by decide +kernel
theorem dX11_surely_41 : decode cX11_surely 41 = .ok (.aload_n 0, 1) := by decide +kernel
theorem dX11_surely_42 : decode cX11_surely 42 = .ok (.getfield 52, 3) := by decide +kernel
theorem dX11_surely_45 : decode cX11_surely 45 = .ok (.iload_n 1, 1) := by decide +kernel
theorem dX11_surely_46 : decode cX11_surely 46 = .ok (.aaload, 1) := by decide +kernel
theorem dX11_surely_47 : decode cX11_surely 47 = .ok (.iload_n 2, 1) := by decide +kernel
theorem dX11_surely_48 : decode cX11_surely 48 = .ok (.iload_n 3, 1) := by decide +kernel
theorem dX11_surely_49 : decode cX11_surely 49 = .ok (.invokevirtual 299, 3) := by decide +kernel
theorem dX11_surely_52 : decode cX11_surely 52 = .ok (.iload 4, 2) := by decide +kernel
theorem dX11_surely_54 : decode cX11_surely 54 = .ok (.ifCond .ne 13, 3) := by decide +kernel
theorem dX11_surely_57 : decode cX11_surely 57 = .ok (.aload_n 0, 1) := by decide +kernel
theorem dX11_surely_58 : decode cX11_surely 58 = .ok (.getfield 97, 3) := by decide +kernel
theorem dX11_surely_61 : decode cX11_surely 61 = .ok (.getfield 312, 3) := by decide +kernel
theorem dX11_surely_64 : decode cX11_surely 64 = .ok (.goto 10, 3) := by decide +kernel
theorem dX11_surely_67 : decode cX11_surely 67 = .ok (.aload_n 0, 1) := by decide +kernel
theorem dX11_surely_68 : decode cX11_surely 68 = .ok (.getfield 97, 3) := by decide +kernel
theorem dX11_surely_71 : decode cX11_surely 71 = .ok (.getfield 315, 3) := by decide +kernel
theorem dX11_surely_74 : decode cX11_surely 74 = .ok (.ireturn, 1) := by decide +kernel
theorem dX11_refusalOfTold_0 : decode cX11_refusalOfTold 0 = .ok (.aload_n 0, 1) := by decide +kernel
theorem dX11_refusalOfTold_1 : decode cX11_refusalOfTold 1 = .ok (.iload_n 1, 1) := by decide +kernel
theorem dX11_refusalOfTold_2 : decode cX11_refusalOfTold 2 = .ok (.invokevirtual 220, 3) := by decide +kernel
theorem dX11_refusalOfTold_5 : decode cX11_refusalOfTold 5 = .ok (.ifCond .eq 6, 3) := by decide +kernel
theorem dX11_refusalOfTold_8 : decode cX11_refusalOfTold 8 = .ok (.bipush (-2), 2) := by decide +kernel
theorem dX11_refusalOfTold_10 : decode cX11_refusalOfTold 10 = .ok (.ireturn, 1) := by decide +kernel
theorem dX11_refusalOfTold_11 : decode cX11_refusalOfTold 11 = .ok (.aload_n 0, 1) := by decide +kernel
theorem dX11_refusalOfTold_12 : decode cX11_refusalOfTold 12 = .ok (.getfield 52, 3) := by decide +kernel
theorem dX11_refusalOfTold_15 : decode cX11_refusalOfTold 15 = .ok (.iload_n 1, 1) := by decide +kernel
theorem dX11_refusalOfTold_16 : decode cX11_refusalOfTold 16 = .ok (.aaload, 1) := by decide +kernel
theorem dX11_refusalOfTold_17 : decode cX11_refusalOfTold 17 = .ok (.astore 4, 2) := by decide +kernel
theorem dX11_refusalOfTold_19 : decode cX11_refusalOfTold 19 = .ok (.aload 4, 2) := by decide +kernel
theorem dX11_refusalOfTold_21 : decode cX11_refusalOfTold 21 = .ok (.invokevirtual 223, 3) := by decide +kernel
theorem dX11_refusalOfTold_24 : decode cX11_refusalOfTold 24 = .ok (.ifCond .eq 6, 3) := by decide +kernel
theorem dX11_refusalOfTold_27 : decode cX11_refusalOfTold 27 = .ok (.bipush (-6), 2) := by decide +kernel
theorem dX11_refusalOfTold_29 : decode cX11_refusalOfTold 29 = .ok (.ireturn, 1) := by decide +kernel
theorem dX11_refusalOfTold_30 : decode cX11_refusalOfTold 30 = .ok (.aload 4, 2) := by decide +kernel
theorem dX11_refusalOfTold_32 : decode cX11_refusalOfTold 32 = .ok (.getfield 306, 3) := by decide +kernel
theorem dX11_refusalOfTold_35 : decode cX11_refusalOfTold 35 = .ok (.iconst 1, 1) := by decide +kernel
theorem dX11_refusalOfTold_36 : decode cX11_refusalOfTold 36 = .ok (.if_icmp .lt 13, 3) := by decide +kernel
theorem dX11_refusalOfTold_39 : decode cX11_refusalOfTold 39 = .ok (.aload 4, 2) := by decide +kernel
theorem dX11_refusalOfTold_41 : decode cX11_refusalOfTold 41 = .ok (.getfield 306, 3) := by decide +kernel
theorem dX11_refusalOfTold_44 : decode cX11_refusalOfTold 44 = .ok (.bipush 10, 2) := by decide +kernel
theorem dX11_refusalOfTold_46 : decode cX11_refusalOfTold 46 = .ok (.if_icmp .le 6, 3) := by decide +kernel
theorem dX11_refusalOfTold_49 : decode cX11_refusalOfTold 49 = .ok (.bipush (-4), 2) := by decide +kernel
theorem dX11_refusalOfTold_51 : decode cX11_refusalOfTold 51 = .ok (.ireturn, 1) := by decide +kernel
theorem dX11_refusalOfTold_52 : decode cX11_refusalOfTold 52 = .ok (.iconst 0, 1) := by decide +kernel
theorem dX11_refusalOfTold_53 : decode cX11_refusalOfTold 53 = .ok (.istore 5, 2) := by decide +kernel
theorem dX11_refusalOfTold_55 : decode cX11_refusalOfTold 55 = .ok (.iload 5, 2) := by decide +kernel
theorem dX11_refusalOfTold_57 : decode cX11_refusalOfTold 57 = .ok (.aload 4, 2) := by decide +kernel
theorem dX11_refusalOfTold_59 : decode cX11_refusalOfTold 59 = .ok (.getfield 306, 3) := by decide +kernel
theorem dX11_refusalOfTold_62 : decode cX11_refusalOfTold 62 = .ok (.if_icmp .ge 43, 3) := by decide +kernel
theorem dX11_refusalOfTold_65 : decode cX11_refusalOfTold 65 = .ok (.aload 4, 2) := by decide +kernel
theorem dX11_refusalOfTold_67 : decode cX11_refusalOfTold 67 = .ok (.iload 5, 2) := by decide +kernel
theorem dX11_refusalOfTold_69 : decode cX11_refusalOfTold 69 = .ok (.invokevirtual 318, 3) := by decide +kernel
theorem dX11_refusalOfTold_72 : decode cX11_refusalOfTold 72 = .ok (.lconst 0, 1) := by decide +kernel
theorem dX11_refusalOfTold_73 : decode cX11_refusalOfTold 73 = .ok (.lcmp, 1) := by decide +kernel
theorem dX11_refusalOfTold_74 : decode cX11_refusalOfTold 74 = .ok (.ifCond .lt 22, 3) := by decide +kernel
theorem dX11_refusalOfTold_77 : decode cX11_refusalOfTold 77 = .ok (.aload 4, 2) := by decide +kernel
theorem dX11_refusalOfTold_79 : decode cX11_refusalOfTold 79 = .ok (.iload 5, 2) := by decide +kernel
theorem dX11_refusalOfTold_81 : decode cX11_refusalOfTold 81 = .ok (.invokevirtual 318, 3) := by decide +kernel
theorem dX11_refusalOfTold_84 : decode cX11_refusalOfTold 84 = .ok (.aload_n 0, 1) := by decide +kernel
theorem dX11_refusalOfTold_85 : decode cX11_refusalOfTold 85 = .ok (.getfield 20, 3) := by decide +kernel
theorem dX11_refusalOfTold_88 : decode cX11_refusalOfTold 88 = .ok (.getfield 181, 3) := by decide +kernel
theorem dX11_refusalOfTold_91 : decode cX11_refusalOfTold 91 = .ok (.i2l, 1) := by decide +kernel
theorem dX11_refusalOfTold_92 : decode cX11_refusalOfTold 92 = .ok (.lcmp, 1) := by decide +kernel
theorem dX11_refusalOfTold_93 : decode cX11_refusalOfTold 93 = .ok (.ifCond .lt 6, 3) := by decide +kernel
theorem dX11_refusalOfTold_96 : decode cX11_refusalOfTold 96 = .ok (.bipush (-3), 2) := by decide +kernel
theorem dX11_refusalOfTold_98 : decode cX11_refusalOfTold 98 = .ok (.ireturn, 1) := by decide +kernel
theorem dX11_refusalOfTold_99 : decode cX11_refusalOfTold 99 = .ok (.iinc 5 1, 3) := by decide +kernel
theorem dX11_refusalOfTold_102 : decode cX11_refusalOfTold 102 = .ok (.goto (-47), 3) := by decide +kernel
theorem dX11_refusalOfTold_105 : decode cX11_refusalOfTold 105 = .ok (.aload_n 0, 1) := by decide +kernel
theorem dX11_refusalOfTold_106 : decode cX11_refusalOfTold 106 = .ok (.iload_n 2, 1) := by decide +kernel
theorem dX11_refusalOfTold_107 : decode cX11_refusalOfTold 107 = .ok (.invokevirtual 237, 3) := by decide +kernel
theorem dX11_refusalOfTold_110 : decode cX11_refusalOfTold 110 = .ok (.ifCond .ne 11, 3) := by decide +kernel
theorem dX11_refusalOfTold_113 : decode cX11_refusalOfTold 113 = .ok (.aload_n 0, 1) := by decide +kernel
theorem dX11_refusalOfTold_114 : decode cX11_refusalOfTold 114 = .ok (.iload_n 3, 1) := by decide +kernel
theorem dX11_refusalOfTold_115 : decode cX11_refusalOfTold 115 = .ok (.invokevirtual 237, 3) := by decide +kernel
theorem dX11_refusalOfTold_118 : decode cX11_refusalOfTold 118 = .ok (.ifCond .eq 8, 3) := by decide +kernel
theorem dX11_refusalOfTold_121 : decode cX11_refusalOfTold 121 = .ok (.bipush (-3), 2) := by decide +kernel
theorem dX11_refusalOfTold_123 : decode cX11_refusalOfTold 123 = .ok (.goto 4, 3) := by decide +kernel
theorem dX11_refusalOfTold_126 : decode cX11_refusalOfTold 126 = .ok (.iconst 0, 1) := by decide +kernel
theorem dX11_refusalOfTold_127 : decode cX11_refusalOfTold 127 = .ok (.ireturn, 1) := by decide +kernel
theorem dX11_bonds_0 : decode cX11_bonds 0 = .ok (.aload_n 0, 1) := by decide +kernel
theorem dX11_bonds_1 : decode cX11_bonds 1 = .ok (.iload_n 1, 1) := by decide +kernel
theorem dX11_bonds_2 : decode cX11_bonds 2 = .ok (.iload_n 2, 1) := by decide +kernel
theorem dX11_bonds_3 : decode cX11_bonds 3 = .ok (.iload_n 3, 1) := by decide +kernel
theorem dX11_bonds_4 : decode cX11_bonds 4 = .ok (.invokevirtual 322, 3) := by decide +kernel
theorem dX11_bonds_7 : decode cX11_bonds 7 = .ok (.istore 4, 2) := by decide +kernel
theorem dX11_bonds_9 : decode cX11_bonds 9 = .ok (.iload 4, 2) := by decide +kernel
theorem dX11_bonds_11 : decode cX11_bonds 11 = .ok (.ifCond .eq 8, 3) := by decide +kernel
theorem dX11_bonds_14 : decode cX11_bonds 14 = .ok (.iload 4, 2) := by decide +kernel
theorem dX11_bonds_16 : decode cX11_bonds 16 = .ok (.goto 15, 3) := by decide +kernel
theorem dX11_bonds_19 : decode cX11_bonds 19 = .ok (.aload_n 0, 1) := by decide +kernel
theorem dX11_bonds_20 : decode cX11_bonds 20 = .ok (.aload_n 0, 1) := by decide +kernel
theorem dX11_bonds_21 : decode cX11_bonds 21 = .ok (.getfield 52, 3) := by decide +kernel
theorem dX11_bonds_24 : decode cX11_bonds 24 = .ok (.iload_n 1, 1) := by decide +kernel
theorem dX11_bonds_25 : decode cX11_bonds 25 = .ok (.aaload, 1) := by decide +kernel
theorem dX11_bonds_26 : decode cX11_bonds 26 = .ok (.iload_n 2, 1) := by decide +kernel
theorem dX11_bonds_27 : decode cX11_bonds 27 = .ok (.iload_n 3, 1) := by decide +kernel
theorem dX11_bonds_28 : decode cX11_bonds 28 = .ok (.invokevirtual 325, 3) := by decide +kernel
theorem dX11_bonds_31 : decode cX11_bonds 31 = .ok (.ireturn, 1) := by decide +kernel
theorem dX11_attempt_0 : decode cX11_attempt 0 = .ok (.aload_n 0, 1) := by decide +kernel
theorem dX11_attempt_1 : decode cX11_attempt 1 = .ok (.iload_n 1, 1) := by decide +kernel
theorem dX11_attempt_2 : decode cX11_attempt 2 = .ok (.iload_n 2, 1) := by decide +kernel
theorem dX11_attempt_3 : decode cX11_attempt 3 = .ok (.iload_n 3, 1) := by decide +kernel
theorem dX11_attempt_4 : decode cX11_attempt 4 = .ok (.invokevirtual 322, 3) := by decide +kernel
theorem dX11_attempt_7 : decode cX11_attempt 7 = .ok (.istore 4, 2) := by decide +kernel
theorem dX11_attempt_9 : decode cX11_attempt 9 = .ok (.iload 4, 2) := by decide +kernel
theorem dX11_attempt_11 : decode cX11_attempt 11 = .ok (.ifCond .eq 6, 3) := by decide +kernel
theorem dX11_attempt_14 : decode cX11_attempt 14 = .ok (.iload 4, 2) := by decide +kernel
theorem dX11_attempt_16 : decode cX11_attempt 16 = .ok (.ireturn, 1) := by decide +kernel
theorem dX11_attempt_17 : decode cX11_attempt 17 = .ok (.aload_n 0, 1) := by decide +kernel
theorem dX11_attempt_18 : decode cX11_attempt 18 = .ok (.aload_n 0, 1) := by decide +kernel
theorem dX11_attempt_19 : decode cX11_attempt 19 = .ok (.getfield 52, 3) := by decide +kernel
theorem dX11_attempt_22 : decode cX11_attempt 22 = .ok (.iload_n 1, 1) := by decide +kernel
theorem dX11_attempt_23 : decode cX11_attempt 23 = .ok (.aaload, 1) := by decide +kernel
theorem dX11_attempt_24 : decode cX11_attempt 24 = .ok (.iload_n 2, 1) := by decide +kernel
theorem dX11_attempt_25 : decode cX11_attempt 25 = .ok (.iload_n 3, 1) := by decide +kernel
theorem dX11_attempt_26 : decode cX11_attempt 26 = .ok (.invokevirtual 325, 3) := by decide +kernel
theorem dX11_attempt_29 : decode cX11_attempt 29 = .ok (.istore 5, 2) := by decide +kernel
theorem dX11_attempt_31 : decode cX11_attempt 31 = .ok (.iload 5, 2) := by decide +kernel
theorem dX11_attempt_33 : decode cX11_attempt 33 = .ok (.ifCond .ne 7, 3) := by decide +kernel
theorem dX11_attempt_36 : decode cX11_attempt 36 = .ok (.iconst (-1), 1) := by decide +kernel
theorem dX11_attempt_37 : decode cX11_attempt 37 = .ok (.goto 9, 3) := by decide +kernel
theorem dX11_attempt_40 : decode cX11_attempt 40 = .ok (.aload_n 0, 1) := by decide +kernel
theorem dX11_attempt_41 : decode cX11_attempt 41 = .ok (.iload 5, 2) := by decide +kernel
theorem dX11_attempt_43 : decode cX11_attempt 43 = .ok (.invokevirtual 329, 3) := by decide +kernel
theorem dX11_attempt_46 : decode cX11_attempt 46 = .ok (.ireturn, 1) := by decide +kernel
theorem dX11_refusalOfBonds_0 : decode cX11_refusalOfBonds 0 = .ok (.aload_n 0, 1) := by decide +kernel
theorem dX11_refusalOfBonds_1 : decode cX11_refusalOfBonds 1 = .ok (.iload_n 1, 1) := by decide +kernel
theorem dX11_refusalOfBonds_2 : decode cX11_refusalOfBonds 2 = .ok (.invokevirtual 220, 3) := by decide +kernel
theorem dX11_refusalOfBonds_5 : decode cX11_refusalOfBonds 5 = .ok (.ifCond .eq 6, 3) := by decide +kernel
theorem dX11_refusalOfBonds_8 : decode cX11_refusalOfBonds 8 = .ok (.bipush (-2), 2) := by decide +kernel
theorem dX11_refusalOfBonds_10 : decode cX11_refusalOfBonds 10 = .ok (.ireturn, 1) := by decide +kernel
theorem dX11_refusalOfBonds_11 : decode cX11_refusalOfBonds 11 = .ok (.aload_n 0, 1) := by decide +kernel
theorem dX11_refusalOfBonds_12 : decode cX11_refusalOfBonds 12 = .ok (.getfield 52, 3) := by decide +kernel
theorem dX11_refusalOfBonds_15 : decode cX11_refusalOfBonds 15 = .ok (.iload_n 1, 1) := by decide +kernel
theorem dX11_refusalOfBonds_16 : decode cX11_refusalOfBonds 16 = .ok (.aaload, 1) := by decide +kernel
theorem dX11_refusalOfBonds_17 : decode cX11_refusalOfBonds 17 = .ok (.astore 4, 2) := by decide +kernel
theorem dX11_refusalOfBonds_19 : decode cX11_refusalOfBonds 19 = .ok (.aload 4, 2) := by decide +kernel
theorem dX11_refusalOfBonds_21 : decode cX11_refusalOfBonds 21 = .ok (.invokevirtual 223, 3) := by decide +kernel
theorem dX11_refusalOfBonds_24 : decode cX11_refusalOfBonds 24 = .ok (.ifCond .eq 6, 3) := by decide +kernel
theorem dX11_refusalOfBonds_27 : decode cX11_refusalOfBonds 27 = .ok (.bipush (-6), 2) := by decide +kernel
theorem dX11_refusalOfBonds_29 : decode cX11_refusalOfBonds 29 = .ok (.ireturn, 1) := by decide +kernel
theorem dX11_refusalOfBonds_30 : decode cX11_refusalOfBonds 30 = .ok (.aload 4, 2) := by decide +kernel
theorem dX11_refusalOfBonds_32 : decode cX11_refusalOfBonds 32 = .ok (.getfield 306, 3) := by decide +kernel
theorem dX11_refusalOfBonds_35 : decode cX11_refusalOfBonds 35 = .ok (.iconst 1, 1) := by decide +kernel
theorem dX11_refusalOfBonds_36 : decode cX11_refusalOfBonds 36 = .ok (.if_icmp .lt 13, 3) := by decide +kernel
theorem dX11_refusalOfBonds_39 : decode cX11_refusalOfBonds 39 = .ok (.aload 4, 2) := by decide +kernel
theorem dX11_refusalOfBonds_41 : decode cX11_refusalOfBonds 41 = .ok (.getfield 306, 3) := by decide +kernel
theorem dX11_refusalOfBonds_44 : decode cX11_refusalOfBonds 44 = .ok (.bipush 12, 2) := by decide +kernel
theorem dX11_refusalOfBonds_46 : decode cX11_refusalOfBonds 46 = .ok (.if_icmp .le 6, 3) := by decide +kernel
theorem dX11_refusalOfBonds_49 : decode cX11_refusalOfBonds 49 = .ok (.bipush (-4), 2) := by decide +kernel
theorem dX11_refusalOfBonds_51 : decode cX11_refusalOfBonds 51 = .ok (.ireturn, 1) := by decide +kernel
theorem dX11_refusalOfBonds_52 : decode cX11_refusalOfBonds 52 = .ok (.iconst 0, 1) := by decide +kernel
theorem dX11_refusalOfBonds_53 : decode cX11_refusalOfBonds 53 = .ok (.istore 5, 2) := by decide +kernel
theorem dX11_refusalOfBonds_55 : decode cX11_refusalOfBonds 55 = .ok (.iload 5, 2) := by decide +kernel
theorem dX11_refusalOfBonds_57 : decode cX11_refusalOfBonds 57 = .ok (.aload 4, 2) := by decide +kernel
theorem dX11_refusalOfBonds_59 : decode cX11_refusalOfBonds 59 = .ok (.getfield 306, 3) := by decide +kernel
theorem dX11_refusalOfBonds_62 : decode cX11_refusalOfBonds 62 = .ok (.if_icmp .ge 26, 3) := by decide +kernel
theorem dX11_refusalOfBonds_65 : decode cX11_refusalOfBonds 65 = .ok (.aload_n 0, 1) := by decide +kernel
theorem dX11_refusalOfBonds_66 : decode cX11_refusalOfBonds 66 = .ok (.aload 4, 2) := by decide +kernel
theorem dX11_refusalOfBonds_68 : decode cX11_refusalOfBonds 68 = .ok (.iload 5, 2) := by decide +kernel
theorem dX11_refusalOfBonds_70 : decode cX11_refusalOfBonds 70 = .ok (.invokevirtual 318, 3) := by decide +kernel
theorem dX11_refusalOfBonds_73 : decode cX11_refusalOfBonds 73 = .ok (.invokevirtual 332, 3) := by decide +kernel
theorem dX11_refusalOfBonds_76 : decode cX11_refusalOfBonds 76 = .ok (.ifCond .ne 6, 3) := by decide +kernel
theorem dX11_refusalOfBonds_79 : decode cX11_refusalOfBonds 79 = .ok (.bipush (-3), 2) := by decide +kernel
theorem dX11_refusalOfBonds_81 : decode cX11_refusalOfBonds 81 = .ok (.ireturn, 1) := by decide +kernel
theorem dX11_refusalOfBonds_82 : decode cX11_refusalOfBonds 82 = .ok (.iinc 5 1, 3) := by decide +kernel
theorem dX11_refusalOfBonds_85 : decode cX11_refusalOfBonds 85 = .ok (.goto (-30), 3) := by decide +kernel
theorem dX11_refusalOfBonds_88 : decode cX11_refusalOfBonds 88 = .ok (.aload_n 0, 1) := by decide +kernel
theorem dX11_refusalOfBonds_89 : decode cX11_refusalOfBonds 89 = .ok (.iload_n 2, 1) := by decide +kernel
theorem dX11_refusalOfBonds_90 : decode cX11_refusalOfBonds 90 = .ok (.invokevirtual 237, 3) := by decide +kernel
theorem dX11_refusalOfBonds_93 : decode cX11_refusalOfBonds 93 = .ok (.ifCond .ne 11, 3) := by decide +kernel
theorem dX11_refusalOfBonds_96 : decode cX11_refusalOfBonds 96 = .ok (.aload_n 0, 1) := by decide +kernel
theorem dX11_refusalOfBonds_97 : decode cX11_refusalOfBonds 97 = .ok (.iload_n 3, 1) := by decide +kernel
theorem dX11_refusalOfBonds_98 : decode cX11_refusalOfBonds 98 = .ok (.invokevirtual 237, 3) := by decide +kernel
theorem dX11_refusalOfBonds_101 : decode cX11_refusalOfBonds 101 = .ok (.ifCond .eq 8, 3) := by decide +kernel
theorem dX11_refusalOfBonds_104 : decode cX11_refusalOfBonds 104 = .ok (.bipush (-3), 2) := by decide +kernel
theorem dX11_refusalOfBonds_106 : decode cX11_refusalOfBonds 106 = .ok (.goto 4, 3) := by decide +kernel
theorem dX11_refusalOfBonds_109 : decode cX11_refusalOfBonds 109 = .ok (.iconst 0, 1) := by decide +kernel
theorem dX11_refusalOfBonds_110 : decode cX11_refusalOfBonds 110 = .ok (.ireturn, 1) := by decide +kernel
theorem dX11_isTellingOrDay_0 : decode cX11_isTellingOrDay 0 = .ok (.lload_n 1, 1) := by decide +kernel
theorem dX11_isTellingOrDay_1 : decode cX11_isTellingOrDay 1 = .ok (.ldc2_w 336, 3) := by decide +kernel
theorem dX11_isTellingOrDay_4 : decode cX11_isTellingOrDay 4 = .ok (.lcmp, 1) := by decide +kernel
theorem dX11_isTellingOrDay_5 : decode cX11_isTellingOrDay 5 = .ok (.ifCond .eq 34, 3) := by decide +kernel
theorem dX11_isTellingOrDay_8 : decode cX11_isTellingOrDay 8 = .ok (.lload_n 1, 1) := by decide +kernel
theorem dX11_isTellingOrDay_9 : decode cX11_isTellingOrDay 9 = .ok (.lconst 0, 1) := by decide +kernel
theorem dX11_isTellingOrDay_10 : decode cX11_isTellingOrDay 10 = .ok (.lcmp, 1) := by decide +kernel
theorem dX11_isTellingOrDay_11 : decode cX11_isTellingOrDay 11 = .ok (.ifCond .lt 32, 3) := by decide +kernel
theorem dX11_isTellingOrDay_14 : decode cX11_isTellingOrDay 14 = .ok (.lload_n 1, 1) := by decide +kernel
theorem dX11_isTellingOrDay_15 : decode cX11_isTellingOrDay 15 = .ok (.ldc2_w 338, 3) := by decide +kernel
theorem dX11_isTellingOrDay_18 : decode cX11_isTellingOrDay 18 = .ok (.lcmp, 1) := by decide +kernel
theorem dX11_isTellingOrDay_19 : decode cX11_isTellingOrDay 19 = .ok (.ifCond .ge 24, 3) := by decide +kernel
theorem dX11_isTellingOrDay_22 : decode cX11_isTellingOrDay 22 = .ok (.lload_n 1, 1) := by decide +kernel
theorem dX11_isTellingOrDay_23 : decode cX11_isTellingOrDay 23 = .ok (.ldc2_w 340, 3) := by decide +kernel
theorem dX11_isTellingOrDay_26 : decode cX11_isTellingOrDay 26 = .ok (.lrem, 1) := by decide +kernel
theorem dX11_isTellingOrDay_27 : decode cX11_isTellingOrDay 27 = .ok (.aload_n 0, 1) := by decide +kernel
theorem dX11_isTellingOrDay_28 : decode cX11_isTellingOrDay 28 = .ok (.getfield 20, 3) := by decide +kernel
theorem dX11_isTellingOrDay_31 : decode cX11_isTellingOrDay 31 = .ok (.getfield 181, 3) := by decide +kernel
theorem dX11_isTellingOrDay_34 : decode cX11_isTellingOrDay 34 = .ok (.i2l, 1) := by decide +kernel
theorem dX11_isTellingOrDay_35 : decode cX11_isTellingOrDay 35 = .ok (.lcmp, 1) := by decide +kernel
theorem dX11_isTellingOrDay_36 : decode cX11_isTellingOrDay 36 = .ok (.ifCond .ge 7, 3) := by decide +kernel
theorem dX11_isTellingOrDay_39 : decode cX11_isTellingOrDay 39 = .ok (.iconst 1, 1) := by decide +kernel
theorem dX11_isTellingOrDay_40 : decode cX11_isTellingOrDay 40 = .ok (.goto 4, 3) := by decide +kernel
theorem dX11_isTellingOrDay_43 : decode cX11_isTellingOrDay 43 = .ok (.iconst 0, 1) := by decide +kernel
theorem dX11_isTellingOrDay_44 : decode cX11_isTellingOrDay 44 = .ok (.ireturn, 1) := by decide +kernel
theorem dX11_bondBits_0 : decode cX11_bondBits 0 = .ok (.iconst 0, 1) := by decide +kernel
theorem dX11_bondBits_1 : decode cX11_bondBits 1 = .ok (.istore 4, 2) := by decide +kernel
theorem dX11_bondBits_3 : decode cX11_bondBits 3 = .ok (.iconst 0, 1) := by decide +kernel
theorem dX11_bondBits_4 : decode cX11_bondBits 4 = .ok (.istore 5, 2) := by decide +kernel
theorem dX11_bondBits_6 : decode cX11_bondBits 6 = .ok (.iload 5, 2) := by decide +kernel
theorem dX11_bondBits_8 : decode cX11_bondBits 8 = .ok (.bipush 10, 2) := by decide +kernel
theorem dX11_bondBits_10 : decode cX11_bondBits 10 = .ok (.if_icmp .ge 80, 3) := by decide +kernel
theorem dX11_bondBits_13 : decode cX11_bondBits 13 = .ok (.aload_n 0, 1) := by decide +kernel
theorem dX11_bondBits_14 : decode cX11_bondBits 14 = .ok (.getfield 40, 3) := by decide +kernel
theorem dX11_bondBits_17 : decode cX11_bondBits 17 = .ok (.aload_n 0, 1) := by decide +kernel
theorem dX11_bondBits_18 : decode cX11_bondBits 18 = .ok (.getfield 36, 3) := by decide +kernel
theorem dX11_bondBits_21 : decode cX11_bondBits 21 = .ok (.invokevirtual 187, 3) := by decide +kernel
theorem dX11_bondBits_24 : decode cX11_bondBits 24 = .ok (.aload_n 0, 1) := by decide +kernel
theorem dX11_bondBits_25 : decode cX11_bondBits 25 = .ok (.getfield 40, 3) := by decide +kernel
theorem dX11_bondBits_28 : decode cX11_bondBits 28 = .ok (.iload 5, 2) := by decide +kernel
theorem dX11_bondBits_30 : decode cX11_bondBits 30 = .ok (.putfield 133, 3) := by decide +kernel
theorem dX11_bondBits_33 : decode cX11_bondBits 33 = .ok (.aload_n 0, 1) := by decide +kernel
theorem dX11_bondBits_34 : decode cX11_bondBits 34 = .ok (.getfield 40, 3) := by decide +kernel
theorem dX11_bondBits_37 : decode cX11_bondBits 37 = .ok (.aload_n 0, 1) := by decide +kernel
theorem dX11_bondBits_38 : decode cX11_bondBits 38 = .ok (.getfield 20, 3) := by decide +kernel
theorem dX11_bondBits_41 : decode cX11_bondBits 41 = .ok (.aload_n 1, 1) := by decide +kernel
theorem dX11_bondBits_42 : decode cX11_bondBits 42 = .ok (.invokevirtual 227, 3) := by decide +kernel
theorem dX11_bondBits_45 : decode cX11_bondBits 45 = .ok (.pop, 1) := by decide +kernel
theorem dX11_bondBits_46 : decode cX11_bondBits 46 = .ok (.aload_n 0, 1) := by decide +kernel
theorem dX11_bondBits_47 : decode cX11_bondBits 47 = .ok (.getfield 40, 3) := by decide +kernel
theorem dX11_bondBits_50 : decode cX11_bondBits 50 = .ok (.getfield 231, 3) := by decide +kernel
theorem dX11_bondBits_53 : decode cX11_bondBits 53 = .ok (.ifCond .ne 31, 3) := by decide +kernel
theorem dX11_bondBits_56 : decode cX11_bondBits 56 = .ok (.aload_n 0, 1) := by decide +kernel
theorem dX11_bondBits_57 : decode cX11_bondBits 57 = .ok (.getfield 20, 3) := by decide +kernel
theorem dX11_bondBits_60 : decode cX11_bondBits 60 = .ok (.aload_n 0, 1) := by decide +kernel
theorem dX11_bondBits_61 : decode cX11_bondBits 61 = .ok (.getfield 40, 3) := by decide +kernel
theorem dX11_bondBits_64 : decode cX11_bondBits 64 = .ok (.getfield 127, 3) := by decide +kernel
theorem dX11_bondBits_67 : decode cX11_bondBits 67 = .ok (.iload_n 2, 1) := by decide +kernel
theorem dX11_bondBits_68 : decode cX11_bondBits 68 = .ok (.iload_n 3, 1) := by decide +kernel
theorem dX11_bondBits_69 : decode cX11_bondBits 69 = .ok (.invokevirtual 342, 3) := by decide +kernel
theorem dX11_bondBits_72 : decode cX11_bondBits 72 = .ok (.ifCond .eq 12, 3) := by decide +kernel
theorem dX11_bondBits_75 : decode cX11_bondBits 75 = .ok (.iload 4, 2) := by decide +kernel
theorem dX11_bondBits_77 : decode cX11_bondBits 77 = .ok (.iconst 1, 1) := by decide +kernel
theorem dX11_bondBits_78 : decode cX11_bondBits 78 = .ok (.iload 5, 2) := by decide +kernel
theorem dX11_bondBits_80 : decode cX11_bondBits 80 = .ok (.ishl, 1) := by decide +kernel
theorem dX11_bondBits_81 : decode cX11_bondBits 81 = .ok (.ior, 1) := by decide +kernel
theorem dX11_bondBits_82 : decode cX11_bondBits 82 = .ok (.istore 4, 2) := by decide +kernel
theorem dX11_bondBits_84 : decode cX11_bondBits 84 = .ok (.iinc 5 1, 3) := by decide +kernel
theorem dX11_bondBits_87 : decode cX11_bondBits 87 = .ok (.goto (-81), 3) := by decide +kernel
theorem dX11_bondBits_90 : decode cX11_bondBits 90 = .ok (.iload 4, 2) := by decide +kernel
theorem dX11_bondBits_92 : decode cX11_bondBits 92 = .ok (.ireturn, 1) := by decide +kernel
theorem dX11_tellingNext_0 : decode cX11_tellingNext 0 = .ok (.iconst (-1), 1) := by decide +kernel
theorem dX11_tellingNext_1 : decode cX11_tellingNext 1 = .ok (.istore_n 2, 1) := by decide +kernel
theorem dX11_tellingNext_2 : decode cX11_tellingNext 2 = .ok (.bipush 11, 2) := by decide +kernel
theorem dX11_tellingNext_4 : decode cX11_tellingNext 4 = .ok (.istore_n 3, 1) := by decide +kernel
theorem dX11_tellingNext_5 : decode cX11_tellingNext 5 = .ok (.iconst 0, 1) := by decide +kernel
theorem dX11_tellingNext_6 : decode cX11_tellingNext 6 = .ok (.istore 4, 2) := by decide +kernel
theorem dX11_tellingNext_8 : decode cX11_tellingNext 8 = .ok (.iload 4, 2) := by decide +kernel
theorem dX11_tellingNext_10 : decode cX11_tellingNext 10 = .ok (.iconst 2, 1) := by decide +kernel
theorem dX11_tellingNext_11 : decode cX11_tellingNext 11 = .ok (.if_icmp .ge 87, 3) := by decide +kernel
theorem dX11_tellingNext_14 : decode cX11_tellingNext 14 = .ok (.iconst 0, 1) := by decide +kernel
theorem dX11_tellingNext_15 : decode cX11_tellingNext 15 = .ok (.istore 5, 2) := by decide +kernel
theorem dX11_tellingNext_17 : decode cX11_tellingNext 17 = .ok (.iload 5, 2) := by decide +kernel
theorem dX11_tellingNext_19 : decode cX11_tellingNext 19 = .ok (.aload_n 0, 1) := by decide +kernel
theorem dX11_tellingNext_20 : decode cX11_tellingNext 20 = .ok (.getfield 20, 3) := by decide +kernel
theorem dX11_tellingNext_23 : decode cX11_tellingNext 23 = .ok (.getfield 181, 3) := by decide +kernel
theorem dX11_tellingNext_26 : decode cX11_tellingNext 26 = .ok (.if_icmp .ge 66, 3) := by decide +kernel
theorem dX11_tellingNext_29 : decode cX11_tellingNext 29 = .ok (.aload_n 0, 1) := by decide +kernel
theorem dX11_tellingNext_30 : decode cX11_tellingNext 30 = .ok (.getfield 20, 3) := by decide +kernel
theorem dX11_tellingNext_33 : decode cX11_tellingNext 33 = .ok (.aload_n 0, 1) := by decide +kernel
theorem dX11_tellingNext_34 : decode cX11_tellingNext 34 = .ok (.getfield 36, 3) := by decide +kernel
theorem dX11_tellingNext_37 : decode cX11_tellingNext 37 = .ok (.getfield 127, 3) := by decide +kernel
theorem dX11_tellingNext_40 : decode cX11_tellingNext 40 = .ok (.aload_n 0, 1) := by decide +kernel
theorem dX11_tellingNext_41 : decode cX11_tellingNext 41 = .ok (.getfield 36, 3) := by decide +kernel
theorem dX11_tellingNext_44 : decode cX11_tellingNext 44 = .ok (.getfield 133, 3) := by decide +kernel
theorem dX11_tellingNext_47 : decode cX11_tellingNext 47 = .ok (.iload 4, 2) := by decide +kernel
theorem dX11_tellingNext_49 : decode cX11_tellingNext 49 = .ok (.iload 5, 2) := by decide +kernel
theorem dX11_tellingNext_51 : decode cX11_tellingNext 51 = .ok (.invokevirtual 177, 3) := by decide +kernel
theorem dX11_tellingNext_54 : decode cX11_tellingNext 54 = .ok (.ifCond .lt 32, 3) := by decide +kernel
theorem dX11_tellingNext_57 : decode cX11_tellingNext 57 = .ok (.aload_n 0, 1) := by decide +kernel
theorem dX11_tellingNext_58 : decode cX11_tellingNext 58 = .ok (.iload_n 1, 1) := by decide +kernel
theorem dX11_tellingNext_59 : decode cX11_tellingNext 59 = .ok (.iload 4, 2) := by decide +kernel
theorem dX11_tellingNext_61 : decode cX11_tellingNext 61 = .ok (.iload 5, 2) := by decide +kernel
theorem dX11_tellingNext_63 : decode cX11_tellingNext 63 = .ok (.invokevirtual 346, 3) := by decide +kernel
theorem dX11_tellingNext_66 : decode cX11_tellingNext 66 = .ok (.istore 6, 2) := by decide +kernel
theorem dX11_tellingNext_68 : decode cX11_tellingNext 68 = .ok (.iload 6, 2) := by decide +kernel
theorem dX11_tellingNext_70 : decode cX11_tellingNext 70 = .ok (.iload_n 3, 1) := by decide +kernel
theorem dX11_tellingNext_71 : decode cX11_tellingNext 71 = .ok (.if_icmp .ge 15, 3) := by decide +kernel
theorem dX11_tellingNext_74 : decode cX11_tellingNext 74 = .ok (.iload 6, 2) := by decide +kernel
theorem dX11_tellingNext_76 : decode cX11_tellingNext 76 = .ok (.istore_n 3, 1) := by decide +kernel
theorem dX11_tellingNext_77 : decode cX11_tellingNext 77 = .ok (.bipush 10, 2) := by decide +kernel
theorem dX11_tellingNext_79 : decode cX11_tellingNext 79 = .ok (.iload 4, 2) := by decide +kernel
theorem dX11_tellingNext_81 : decode cX11_tellingNext 81 = .ok (.imul, 1) := by decide +kernel
theorem dX11_tellingNext_82 : decode cX11_tellingNext 82 = .ok (.iload 5, 2) := by decide +kernel
theorem dX11_tellingNext_84 : decode cX11_tellingNext 84 = .ok (.iadd, 1) := by decide +kernel
theorem dX11_tellingNext_85 : decode cX11_tellingNext 85 = .ok (.istore_n 2, 1) := by decide +kernel
theorem dX11_tellingNext_86 : decode cX11_tellingNext 86 = .ok (.iinc 5 1, 3) := by decide +kernel
theorem dX11_tellingNext_89 : decode cX11_tellingNext 89 = .ok (.goto (-72), 3) := by decide +kernel
theorem dX11_tellingNext_92 : decode cX11_tellingNext 92 = .ok (.iinc 4 1, 3) := by decide +kernel
theorem dX11_tellingNext_95 : decode cX11_tellingNext 95 = .ok (.goto (-87), 3) := by decide +kernel
theorem dX11_tellingNext_98 : decode cX11_tellingNext 98 = .ok (.iload_n 2, 1) := by decide +kernel
theorem dX11_tellingNext_99 : decode cX11_tellingNext 99 = .ok (.ireturn, 1) := by decide +kernel
theorem dX11_mostLeft_0 : decode cX11_mostLeft 0 = .ok (.iconst 0, 1) := by decide +kernel
theorem dX11_mostLeft_1 : decode cX11_mostLeft 1 = .ok (.istore 4, 2) := by decide +kernel
theorem dX11_mostLeft_3 : decode cX11_mostLeft 3 = .ok (.iconst 0, 1) := by decide +kernel
theorem dX11_mostLeft_4 : decode cX11_mostLeft 4 = .ok (.istore 5, 2) := by decide +kernel
theorem dX11_mostLeft_6 : decode cX11_mostLeft 6 = .ok (.iload 5, 2) := by decide +kernel
theorem dX11_mostLeft_8 : decode cX11_mostLeft 8 = .ok (.iconst 3, 1) := by decide +kernel
theorem dX11_mostLeft_9 : decode cX11_mostLeft 9 = .ok (.if_icmp .gt 88, 3) := by decide +kernel
theorem dX11_mostLeft_12 : decode cX11_mostLeft 12 = .ok (.iconst 0, 1) := by decide +kernel
theorem dX11_mostLeft_13 : decode cX11_mostLeft 13 = .ok (.istore 6, 2) := by decide +kernel
theorem dX11_mostLeft_15 : decode cX11_mostLeft 15 = .ok (.iconst 0, 1) := by decide +kernel
theorem dX11_mostLeft_16 : decode cX11_mostLeft 16 = .ok (.istore 7, 2) := by decide +kernel
theorem dX11_mostLeft_18 : decode cX11_mostLeft 18 = .ok (.iload 7, 2) := by decide +kernel
theorem dX11_mostLeft_20 : decode cX11_mostLeft 20 = .ok (.bipush 10, 2) := by decide +kernel
theorem dX11_mostLeft_22 : decode cX11_mostLeft 22 = .ok (.if_icmp .ge 60, 3) := by decide +kernel
theorem dX11_mostLeft_25 : decode cX11_mostLeft 25 = .ok (.iload_n 1, 1) := by decide +kernel
theorem dX11_mostLeft_26 : decode cX11_mostLeft 26 = .ok (.iload 7, 2) := by decide +kernel
theorem dX11_mostLeft_28 : decode cX11_mostLeft 28 = .ok (.ishr, 1) := by decide +kernel
theorem dX11_mostLeft_29 : decode cX11_mostLeft 29 = .ok (.iconst 1, 1) := by decide +kernel
theorem dX11_mostLeft_30 : decode cX11_mostLeft 30 = .ok (.iand, 1) := by decide +kernel
theorem dX11_mostLeft_31 : decode cX11_mostLeft 31 = .ok (.ifCond .eq 45, 3) := by decide +kernel
theorem dX11_mostLeft_34 : decode cX11_mostLeft 34 = .ok (.aload_n 0, 1) := by decide +kernel
theorem dX11_mostLeft_35 : decode cX11_mostLeft 35 = .ok (.getfield 20, 3) := by decide +kernel
theorem dX11_mostLeft_38 : decode cX11_mostLeft 38 = .ok (.aload_n 0, 1) := by decide +kernel
theorem dX11_mostLeft_39 : decode cX11_mostLeft 39 = .ok (.getfield 36, 3) := by decide +kernel
theorem dX11_mostLeft_42 : decode cX11_mostLeft 42 = .ok (.getfield 127, 3) := by decide +kernel
theorem dX11_mostLeft_45 : decode cX11_mostLeft 45 = .ok (.iload 7, 2) := by decide +kernel
theorem dX11_mostLeft_47 : decode cX11_mostLeft 47 = .ok (.iload_n 2, 1) := by decide +kernel
theorem dX11_mostLeft_48 : decode cX11_mostLeft 48 = .ok (.iload_n 3, 1) := by decide +kernel
theorem dX11_mostLeft_49 : decode cX11_mostLeft 49 = .ok (.invokevirtual 177, 3) := by decide +kernel
theorem dX11_mostLeft_52 : decode cX11_mostLeft 52 = .ok (.istore 8, 2) := by decide +kernel
theorem dX11_mostLeft_54 : decode cX11_mostLeft 54 = .ok (.iload 8, 2) := by decide +kernel
theorem dX11_mostLeft_56 : decode cX11_mostLeft 56 = .ok (.ifCond .lt 20, 3) := by decide +kernel
theorem dX11_mostLeft_59 : decode cX11_mostLeft 59 = .ok (.iload 8, 2) := by decide +kernel
theorem dX11_mostLeft_61 : decode cX11_mostLeft 61 = .ok (.iconst 1, 1) := by decide +kernel
theorem dX11_mostLeft_62 : decode cX11_mostLeft 62 = .ok (.iload_n 2, 1) := by decide +kernel
theorem dX11_mostLeft_63 : decode cX11_mostLeft 63 = .ok (.isub, 1) := by decide +kernel
theorem dX11_mostLeft_64 : decode cX11_mostLeft 64 = .ok (.iload_n 3, 1) := by decide +kernel
theorem dX11_mostLeft_65 : decode cX11_mostLeft 65 = .ok (.invokestatic 156, 3) := by decide +kernel
theorem dX11_mostLeft_68 : decode cX11_mostLeft 68 = .ok (.iload 5, 2) := by decide +kernel
theorem dX11_mostLeft_70 : decode cX11_mostLeft 70 = .ok (.if_icmp .ne 6, 3) := by decide +kernel
theorem dX11_mostLeft_73 : decode cX11_mostLeft 73 = .ok (.iinc 6 1, 3) := by decide +kernel
theorem dX11_mostLeft_76 : decode cX11_mostLeft 76 = .ok (.iinc 7 1, 3) := by decide +kernel
theorem dX11_mostLeft_79 : decode cX11_mostLeft 79 = .ok (.goto (-61), 3) := by decide +kernel
theorem dX11_mostLeft_82 : decode cX11_mostLeft 82 = .ok (.iload 4, 2) := by decide +kernel
theorem dX11_mostLeft_84 : decode cX11_mostLeft 84 = .ok (.iload 6, 2) := by decide +kernel
theorem dX11_mostLeft_86 : decode cX11_mostLeft 86 = .ok (.invokestatic 288, 3) := by decide +kernel
theorem dX11_mostLeft_89 : decode cX11_mostLeft 89 = .ok (.istore 4, 2) := by decide +kernel
theorem dX11_mostLeft_91 : decode cX11_mostLeft 91 = .ok (.iinc 5 1, 3) := by decide +kernel
theorem dX11_mostLeft_94 : decode cX11_mostLeft 94 = .ok (.goto (-88), 3) := by decide +kernel
theorem dX11_mostLeft_97 : decode cX11_mostLeft 97 = .ok (.iload 4, 2) := by decide +kernel
theorem dX11_mostLeft_99 : decode cX11_mostLeft 99 = .ok (.ireturn, 1) := by decide +kernel
theorem dX11_forces_0 : decode cX11_forces 0 = .ok (.aload_n 0, 1) := by decide +kernel
theorem dX11_forces_1 : decode cX11_forces 1 = .ok (.iload_n 1, 1) := by decide +kernel
theorem dX11_forces_2 : decode cX11_forces 2 = .ok (.invokevirtual 149, 3) := by decide +kernel
theorem dX11_forces_5 : decode cX11_forces 5 = .ok (.ifCond .ne 11, 3) := by decide +kernel
theorem dX11_forces_8 : decode cX11_forces 8 = .ok (.aload_n 0, 1) := by decide +kernel
theorem dX11_forces_9 : decode cX11_forces 9 = .ok (.iload_n 2, 1) := by decide +kernel
theorem dX11_forces_10 : decode cX11_forces 10 = .ok (.invokevirtual 160, 3) := by decide +kernel
theorem dX11_forces_13 : decode cX11_forces 13 = .ok (.ifCond .eq 6, 3) := by decide +kernel
theorem dX11_forces_16 : decode cX11_forces 16 = .ok (.bipush (-2), 2) := by decide +kernel
theorem dX11_forces_18 : decode cX11_forces 18 = .ok (.ireturn, 1) := by decide +kernel
theorem dX11_forces_19 : decode cX11_forces 19 = .ok (.aload_n 0, 1) := by decide +kernel
theorem dX11_forces_20 : decode cX11_forces 20 = .ok (.getfield 83, 3) := by decide +kernel
theorem dX11_forces_23 : decode cX11_forces 23 = .ok (.aload_n 0, 1) := by decide +kernel
theorem dX11_forces_24 : decode cX11_forces 24 = .ok (.getfield 20, 3) := by decide +kernel
theorem dX11_forces_27 : decode cX11_forces 27 = .ok (.aload_n 0, 1) := by decide +kernel
theorem dX11_forces_28 : decode cX11_forces 28 = .ok (.getfield 36, 3) := by decide +kernel
theorem dX11_forces_31 : decode cX11_forces 31 = .ok (.getfield 133, 3) := by decide +kernel
theorem dX11_forces_34 : decode cX11_forces 34 = .ok (.iload_n 1, 1) := by decide +kernel
theorem dX11_forces_35 : decode cX11_forces 35 = .ok (.iload_n 2, 1) := by decide +kernel
theorem dX11_forces_36 : decode cX11_forces 36 = .ok (.invokevirtual 349, 3) := by decide +kernel
theorem dX11_forces_39 : decode cX11_forces 39 = .ok (.aload_n 0, 1) := by decide +kernel
theorem dX11_forces_40 : decode cX11_forces 40 = .ok (.getfield 83, 3) := by decide +kernel
theorem dX11_forces_43 : decode cX11_forces 43 = .ok (.aload_n 0, 1) := by decide +kernel
theorem dX11_forces_44 : decode cX11_forces 44 = .ok (.getfield 36, 3) := by decide +kernel
theorem dX11_forces_47 : decode cX11_forces 47 = .ok (.getfield 127, 3) := by decide +kernel
theorem dX11_forces_50 : decode cX11_forces 50 = .ok (.invokevirtual 352, 3) := by decide +kernel
theorem dX11_forces_53 : decode cX11_forces 53 = .ok (.ireturn, 1) := by decide +kernel
theorem dX11_best_0 : decode cX11_best 0 = .ok (.aload_n 0, 1) := by decide +kernel
theorem dX11_best_1 : decode cX11_best 1 = .ok (.iload_n 1, 1) := by decide +kernel
theorem dX11_best_2 : decode cX11_best 2 = .ok (.invokevirtual 149, 3) := by decide +kernel
theorem dX11_best_5 : decode cX11_best 5 = .ok (.ifCond .ne 11, 3) := by decide +kernel
theorem dX11_best_8 : decode cX11_best 8 = .ok (.aload_n 0, 1) := by decide +kernel
theorem dX11_best_9 : decode cX11_best 9 = .ok (.iload_n 2, 1) := by decide +kernel
theorem dX11_best_10 : decode cX11_best 10 = .ok (.invokevirtual 160, 3) := by decide +kernel
theorem dX11_best_13 : decode cX11_best 13 = .ok (.ifCond .eq 6, 3) := by decide +kernel
theorem dX11_best_16 : decode cX11_best 16 = .ok (.bipush (-2), 2) := by decide +kernel
theorem dX11_best_18 : decode cX11_best 18 = .ok (.ireturn, 1) := by decide +kernel
theorem dX11_best_19 : decode cX11_best 19 = .ok (.aload_n 0, 1) := by decide +kernel
theorem dX11_best_20 : decode cX11_best 20 = .ok (.getfield 83, 3) := by decide +kernel
theorem dX11_best_23 : decode cX11_best 23 = .ok (.aload_n 0, 1) := by decide +kernel
theorem dX11_best_24 : decode cX11_best 24 = .ok (.getfield 20, 3) := by decide +kernel
theorem dX11_best_27 : decode cX11_best 27 = .ok (.aload_n 0, 1) := by decide +kernel
theorem dX11_best_28 : decode cX11_best 28 = .ok (.getfield 36, 3) := by decide +kernel
theorem dX11_best_31 : decode cX11_best 31 = .ok (.getfield 133, 3) := by decide +kernel
theorem dX11_best_34 : decode cX11_best 34 = .ok (.iload_n 1, 1) := by decide +kernel
theorem dX11_best_35 : decode cX11_best 35 = .ok (.iload_n 2, 1) := by decide +kernel
theorem dX11_best_36 : decode cX11_best 36 = .ok (.invokevirtual 349, 3) := by decide +kernel
theorem dX11_best_39 : decode cX11_best 39 = .ok (.aload_n 0, 1) := by decide +kernel
theorem dX11_best_40 : decode cX11_best 40 = .ok (.getfield 83, 3) := by decide +kernel
theorem dX11_best_43 : decode cX11_best 43 = .ok (.aload_n 0, 1) := by decide +kernel
theorem dX11_best_44 : decode cX11_best 44 = .ok (.getfield 36, 3) := by decide +kernel
theorem dX11_best_47 : decode cX11_best 47 = .ok (.getfield 127, 3) := by decide +kernel
theorem dX11_best_50 : decode cX11_best 50 = .ok (.invokevirtual 352, 3) := by decide +kernel
theorem dX11_best_53 : decode cX11_best 53 = .ok (.istore_n 3, 1) := by decide +kernel
theorem dX11_best_54 : decode cX11_best 54 = .ok (.iload_n 3, 1) := by decide +kernel
theorem dX11_best_55 : decode cX11_best 55 = .ok (.ifCond .gt 7, 3) := by decide +kernel
theorem dX11_best_58 : decode cX11_best 58 = .ok (.iconst (-1), 1) := by decide +kernel
theorem dX11_best_59 : decode cX11_best 59 = .ok (.goto 18, 3) := by decide +kernel
theorem dX11_best_62 : decode cX11_best 62 = .ok (.aload_n 0, 1) := by decide +kernel
theorem dX11_best_63 : decode cX11_best 63 = .ok (.getfield 83, 3) := by decide +kernel
theorem dX11_best_66 : decode cX11_best 66 = .ok (.aload_n 0, 1) := by decide +kernel
theorem dX11_best_67 : decode cX11_best 67 = .ok (.getfield 36, 3) := by decide +kernel
theorem dX11_best_70 : decode cX11_best 70 = .ok (.getfield 127, 3) := by decide +kernel
theorem dX11_best_73 : decode cX11_best 73 = .ok (.iload_n 3, 1) := by decide +kernel
theorem dX11_best_74 : decode cX11_best 74 = .ok (.invokevirtual 355, 3) := by decide +kernel
theorem dX11_best_77 : decode cX11_best 77 = .ok (.ireturn, 1) := by decide +kernel
theorem dX11_chance_0 : decode cX11_chance 0 = .ok (.aload_n 0, 1) := by decide +kernel
theorem dX11_chance_1 : decode cX11_chance 1 = .ok (.iload_n 1, 1) := by decide +kernel
theorem dX11_chance_2 : decode cX11_chance 2 = .ok (.invokevirtual 149, 3) := by decide +kernel
theorem dX11_chance_5 : decode cX11_chance 5 = .ok (.ifCond .ne 22, 3) := by decide +kernel
theorem dX11_chance_8 : decode cX11_chance 8 = .ok (.aload_n 0, 1) := by decide +kernel
theorem dX11_chance_9 : decode cX11_chance 9 = .ok (.iload_n 2, 1) := by decide +kernel
theorem dX11_chance_10 : decode cX11_chance 10 = .ok (.invokevirtual 160, 3) := by decide +kernel
theorem dX11_chance_13 : decode cX11_chance 13 = .ok (.ifCond .ne 14, 3) := by decide +kernel
theorem dX11_chance_16 : decode cX11_chance 16 = .ok (.iload 4, 2) := by decide +kernel
theorem dX11_chance_18 : decode cX11_chance 18 = .ok (.ifCond .lt 9, 3) := by decide +kernel
theorem dX11_chance_21 : decode cX11_chance 21 = .ok (.iload 4, 2) := by decide +kernel
theorem dX11_chance_23 : decode cX11_chance 23 = .ok (.iconst 1, 1) := by decide +kernel
theorem dX11_chance_24 : decode cX11_chance 24 = .ok (.if_icmp .le 6, 3) := by decide +kernel
theorem dX11_chance_27 : decode cX11_chance 27 = .ok (.bipush (-2), 2) := by decide +kernel
theorem dX11_chance_29 : decode cX11_chance 29 = .ok (.ireturn, 1) := by decide +kernel
theorem dX11_chance_30 : decode cX11_chance 30 = .ok (.iload_n 3, 1) := by decide +kernel
theorem dX11_chance_31 : decode cX11_chance 31 = .ok (.ifCond .lt 8, 3) := by decide +kernel
theorem dX11_chance_34 : decode cX11_chance 34 = .ok (.iload_n 3, 1) := by decide +kernel
theorem dX11_chance_35 : decode cX11_chance 35 = .ok (.iconst 4, 1) := by decide +kernel
theorem dX11_chance_36 : decode cX11_chance 36 = .ok (.if_icmp .le 6, 3) := by decide +kernel
theorem dX11_chance_39 : decode cX11_chance 39 = .ok (.bipush (-3), 2) := by decide +kernel
theorem dX11_chance_41 : decode cX11_chance 41 = .ok (.ireturn, 1) := by decide +kernel
theorem dX11_chance_42 : decode cX11_chance 42 = .ok (.aload_n 0, 1) := by decide +kernel
theorem dX11_chance_43 : decode cX11_chance 43 = .ok (.getfield 90, 3) := by decide +kernel
theorem dX11_chance_46 : decode cX11_chance 46 = .ok (.aload_n 0, 1) := by decide +kernel
theorem dX11_chance_47 : decode cX11_chance 47 = .ok (.getfield 20, 3) := by decide +kernel
theorem dX11_chance_50 : decode cX11_chance 50 = .ok (.aload_n 0, 1) := by decide +kernel
theorem dX11_chance_51 : decode cX11_chance 51 = .ok (.getfield 36, 3) := by decide +kernel
theorem dX11_chance_54 : decode cX11_chance 54 = .ok (.iload_n 1, 1) := by decide +kernel
theorem dX11_chance_55 : decode cX11_chance 55 = .ok (.iload_n 3, 1) := by decide +kernel
theorem dX11_chance_56 : decode cX11_chance 56 = .ok (.invokevirtual 358, 3) := by decide +kernel
theorem dX11_chance_59 : decode cX11_chance 59 = .ok (.aload_n 0, 1) := by decide +kernel
theorem dX11_chance_60 : decode cX11_chance 60 = .ok (.getfield 90, 3) := by decide +kernel
theorem dX11_chance_63 : decode cX11_chance 63 = .ok (.iload_n 2, 1) := by decide +kernel
theorem dX11_chance_64 : decode cX11_chance 64 = .ok (.invokevirtual 360, 3) := by decide +kernel
theorem dX11_chance_67 : decode cX11_chance 67 = .ok (.aload_n 0, 1) := by decide +kernel
theorem dX11_chance_68 : decode cX11_chance 68 = .ok (.getfield 90, 3) := by decide +kernel
theorem dX11_chance_71 : decode cX11_chance 71 = .ok (.getfield 363, 3) := by decide +kernel
theorem dX11_chance_74 : decode cX11_chance 74 = .ok (.invokestatic 366, 3) := by decide +kernel
theorem dX11_chance_77 : decode cX11_chance 77 = .ok (.istore 5, 2) := by decide +kernel
theorem dX11_chance_79 : decode cX11_chance 79 = .ok (.iload 5, 2) := by decide +kernel
theorem dX11_chance_81 : decode cX11_chance 81 = .ok (.ifCond .ne 5, 3) := by decide +kernel
theorem dX11_chance_84 : decode cX11_chance 84 = .ok (.iconst (-1), 1) := by decide +kernel
theorem dX11_chance_85 : decode cX11_chance 85 = .ok (.ireturn, 1) := by decide +kernel
theorem dX11_chance_86 : decode cX11_chance 86 = .ok (.iload 4, 2) := by decide +kernel
theorem dX11_chance_88 : decode cX11_chance 88 = .ok (.ifCond .ne 14, 3) := by decide +kernel
theorem dX11_chance_91 : decode cX11_chance 91 = .ok (.aload_n 0, 1) := by decide +kernel
theorem dX11_chance_92 : decode cX11_chance 92 = .ok (.getfield 90, 3) := by decide +kernel
theorem dX11_chance_95 : decode cX11_chance 95 = .ok (.iload_n 2, 1) := by decide +kernel
theorem dX11_chance_96 : decode cX11_chance 96 = .ok (.invokevirtual 360, 3) := by decide +kernel
theorem dX11_chance_99 : decode cX11_chance 99 = .ok (.goto 10, 3) := by decide +kernel
theorem dX11_chance_102 : decode cX11_chance 102 = .ok (.aload_n 0, 1) := by decide +kernel
theorem dX11_chance_103 : decode cX11_chance 103 = .ok (.getfield 90, 3) := by decide +kernel
theorem dX11_chance_106 : decode cX11_chance 106 = .ok (.getfield 363, 3) := by decide +kernel
theorem dX11_chance_109 : decode cX11_chance 109 = .ok (.iload 5, 2) := by decide +kernel
theorem dX11_chance_111 : decode cX11_chance 111 = .ok (.idiv, 1) := by decide +kernel
theorem dX11_chance_112 : decode cX11_chance 112 = .ok (.ireturn, 1) := by decide +kernel
theorem dX11_greatestDivisor_0 : decode cX11_greatestDivisor 0 = .ok (.iload_n 0, 1) := by decide +kernel
theorem dX11_greatestDivisor_1 : decode cX11_greatestDivisor 1 = .ok (.istore_n 2, 1) := by decide +kernel
theorem dX11_greatestDivisor_2 : decode cX11_greatestDivisor 2 = .ok (.iload_n 1, 1) := by decide +kernel
theorem dX11_greatestDivisor_3 : decode cX11_greatestDivisor 3 = .ok (.istore_n 3, 1) := by decide +kernel
theorem dX11_greatestDivisor_4 : decode cX11_greatestDivisor 4 = .ok (.iconst 0, 1) := by decide +kernel
theorem dX11_greatestDivisor_5 : decode cX11_greatestDivisor 5 = .ok (.istore 4, 2) := by decide +kernel
theorem dX11_greatestDivisor_7 : decode cX11_greatestDivisor 7 = .ok (.iload 4, 2) := by decide +kernel
theorem dX11_greatestDivisor_9 : decode cX11_greatestDivisor 9 = .ok (.bipush 100, 2) := by decide +kernel
theorem dX11_greatestDivisor_11 : decode cX11_greatestDivisor 11 = .ok (.if_icmp .ge 23, 3) := by decide +kernel
theorem dX11_greatestDivisor_14 : decode cX11_greatestDivisor 14 = .ok (.iload_n 3, 1) := by decide +kernel
theorem dX11_greatestDivisor_15 : decode cX11_greatestDivisor 15 = .ok (.ifCond .eq 19, 3) := by decide +kernel
theorem dX11_greatestDivisor_18 : decode cX11_greatestDivisor 18 = .ok (.iload_n 2, 1) := by decide +kernel
theorem dX11_greatestDivisor_19 : decode cX11_greatestDivisor 19 = .ok (.iload_n 3, 1) := by decide +kernel
theorem dX11_greatestDivisor_20 : decode cX11_greatestDivisor 20 = .ok (.irem, 1) := by decide +kernel
theorem dX11_greatestDivisor_21 : decode cX11_greatestDivisor 21 = .ok (.istore 5, 2) := by decide +kernel
theorem dX11_greatestDivisor_23 : decode cX11_greatestDivisor 23 = .ok (.iload_n 3, 1) := by decide +kernel
theorem dX11_greatestDivisor_24 : decode cX11_greatestDivisor 24 = .ok (.istore_n 2, 1) := by decide +kernel
theorem dX11_greatestDivisor_25 : decode cX11_greatestDivisor 25 = .ok (.iload 5, 2) := by decide +kernel
theorem dX11_greatestDivisor_27 : decode cX11_greatestDivisor 27 = .ok (.istore_n 3, 1) := by decide +kernel
theorem dX11_greatestDivisor_28 : decode cX11_greatestDivisor 28 = .ok (.iinc 4 1, 3) := by decide +kernel
theorem dX11_greatestDivisor_31 : decode cX11_greatestDivisor 31 = .ok (.goto (-24), 3) := by decide +kernel
theorem dX11_greatestDivisor_34 : decode cX11_greatestDivisor 34 = .ok (.iload_n 2, 1) := by decide +kernel
theorem dX11_greatestDivisor_35 : decode cX11_greatestDivisor 35 = .ok (.ireturn, 1) := by decide +kernel
theorem dX11_likeliest_0 : decode cX11_likeliest 0 = .ok (.aload_n 0, 1) := by decide +kernel
theorem dX11_likeliest_1 : decode cX11_likeliest 1 = .ok (.iload_n 1, 1) := by decide +kernel
theorem dX11_likeliest_2 : decode cX11_likeliest 2 = .ok (.invokevirtual 149, 3) := by decide +kernel
theorem dX11_likeliest_5 : decode cX11_likeliest 5 = .ok (.ifCond .eq 6, 3) := by decide +kernel
theorem dX11_likeliest_8 : decode cX11_likeliest 8 = .ok (.bipush (-2), 2) := by decide +kernel
theorem dX11_likeliest_10 : decode cX11_likeliest 10 = .ok (.ireturn, 1) := by decide +kernel
theorem dX11_likeliest_11 : decode cX11_likeliest 11 = .ok (.iload_n 2, 1) := by decide +kernel
theorem dX11_likeliest_12 : decode cX11_likeliest 12 = .ok (.ifCond .lt 8, 3) := by decide +kernel
theorem dX11_likeliest_15 : decode cX11_likeliest 15 = .ok (.iload_n 2, 1) := by decide +kernel
theorem dX11_likeliest_16 : decode cX11_likeliest 16 = .ok (.iconst 4, 1) := by decide +kernel
theorem dX11_likeliest_17 : decode cX11_likeliest 17 = .ok (.if_icmp .le 6, 3) := by decide +kernel
theorem dX11_likeliest_20 : decode cX11_likeliest 20 = .ok (.bipush (-3), 2) := by decide +kernel
theorem dX11_likeliest_22 : decode cX11_likeliest 22 = .ok (.ireturn, 1) := by decide +kernel
theorem dX11_likeliest_23 : decode cX11_likeliest 23 = .ok (.aload_n 0, 1) := by decide +kernel
theorem dX11_likeliest_24 : decode cX11_likeliest 24 = .ok (.getfield 90, 3) := by decide +kernel
theorem dX11_likeliest_27 : decode cX11_likeliest 27 = .ok (.aload_n 0, 1) := by decide +kernel
theorem dX11_likeliest_28 : decode cX11_likeliest 28 = .ok (.getfield 20, 3) := by decide +kernel
theorem dX11_likeliest_31 : decode cX11_likeliest 31 = .ok (.aload_n 0, 1) := by decide +kernel
theorem dX11_likeliest_32 : decode cX11_likeliest 32 = .ok (.getfield 36, 3) := by decide +kernel
theorem dX11_likeliest_35 : decode cX11_likeliest 35 = .ok (.iload_n 1, 1) := by decide +kernel
theorem dX11_likeliest_36 : decode cX11_likeliest 36 = .ok (.iload_n 2, 1) := by decide +kernel
theorem dX11_likeliest_37 : decode cX11_likeliest 37 = .ok (.invokevirtual 358, 3) := by decide +kernel
theorem dX11_likeliest_40 : decode cX11_likeliest 40 = .ok (.iconst (-1), 1) := by decide +kernel
theorem dX11_likeliest_41 : decode cX11_likeliest 41 = .ok (.istore_n 3, 1) := by decide +kernel
theorem dX11_likeliest_42 : decode cX11_likeliest 42 = .ok (.iconst (-1), 1) := by decide +kernel
theorem dX11_likeliest_43 : decode cX11_likeliest 43 = .ok (.istore 4, 2) := by decide +kernel
theorem dX11_likeliest_45 : decode cX11_likeliest 45 = .ok (.iconst 0, 1) := by decide +kernel
theorem dX11_likeliest_46 : decode cX11_likeliest 46 = .ok (.istore 5, 2) := by decide +kernel
theorem dX11_likeliest_48 : decode cX11_likeliest 48 = .ok (.iload 5, 2) := by decide +kernel
theorem dX11_likeliest_50 : decode cX11_likeliest 50 = .ok (.aload_n 0, 1) := by decide +kernel
theorem dX11_likeliest_51 : decode cX11_likeliest 51 = .ok (.getfield 20, 3) := by decide +kernel
theorem dX11_likeliest_54 : decode cX11_likeliest 54 = .ok (.getfield 184, 3) := by decide +kernel
theorem dX11_likeliest_57 : decode cX11_likeliest 57 = .ok (.if_icmp .ge 37, 3) := by decide +kernel
theorem dX11_likeliest_60 : decode cX11_likeliest 60 = .ok (.aload_n 0, 1) := by decide +kernel
theorem dX11_likeliest_61 : decode cX11_likeliest 61 = .ok (.getfield 90, 3) := by decide +kernel
theorem dX11_likeliest_64 : decode cX11_likeliest 64 = .ok (.iload 5, 2) := by decide +kernel
theorem dX11_likeliest_66 : decode cX11_likeliest 66 = .ok (.invokevirtual 360, 3) := by decide +kernel
theorem dX11_likeliest_69 : decode cX11_likeliest 69 = .ok (.iload 4, 2) := by decide +kernel
theorem dX11_likeliest_71 : decode cX11_likeliest 71 = .ok (.if_icmp .le 17, 3) := by decide +kernel
theorem dX11_likeliest_74 : decode cX11_likeliest 74 = .ok (.aload_n 0, 1) := by decide +kernel
theorem dX11_likeliest_75 : decode cX11_likeliest 75 = .ok (.getfield 90, 3) := by decide +kernel
theorem dX11_likeliest_78 : decode cX11_likeliest 78 = .ok (.iload 5, 2) := by decide +kernel
theorem dX11_likeliest_80 : decode cX11_likeliest 80 = .ok (.invokevirtual 360, 3) := by decide +kernel
theorem dX11_likeliest_83 : decode cX11_likeliest 83 = .ok (.istore 4, 2) := by decide +kernel
theorem dX11_likeliest_85 : decode cX11_likeliest 85 = .ok (.iload 5, 2) := by decide +kernel
theorem dX11_likeliest_87 : decode cX11_likeliest 87 = .ok (.istore_n 3, 1) := by decide +kernel
theorem dX11_likeliest_88 : decode cX11_likeliest 88 = .ok (.iinc 5 1, 3) := by decide +kernel
theorem dX11_likeliest_91 : decode cX11_likeliest 91 = .ok (.goto (-43), 3) := by decide +kernel
theorem dX11_likeliest_94 : decode cX11_likeliest 94 = .ok (.iload_n 3, 1) := by decide +kernel
theorem dX11_likeliest_95 : decode cX11_likeliest 95 = .ok (.ireturn, 1) := by decide +kernel
theorem dX11_numbers_0 : decode cX11_numbers 0 = .ok (.aload_n 0, 1) := by decide +kernel
theorem dX11_numbers_1 : decode cX11_numbers 1 = .ok (.iload_n 1, 1) := by decide +kernel
theorem dX11_numbers_2 : decode cX11_numbers 2 = .ok (.invokevirtual 220, 3) := by decide +kernel
theorem dX11_numbers_5 : decode cX11_numbers 5 = .ok (.ifCond .ne 12, 3) := by decide +kernel
theorem dX11_numbers_8 : decode cX11_numbers 8 = .ok (.iload_n 2, 1) := by decide +kernel
theorem dX11_numbers_9 : decode cX11_numbers 9 = .ok (.ifCond .lt 8, 3) := by decide +kernel
theorem dX11_numbers_12 : decode cX11_numbers 12 = .ok (.iload_n 2, 1) := by decide +kernel
theorem dX11_numbers_13 : decode cX11_numbers 13 = .ok (.iconst 3, 1) := by decide +kernel
theorem dX11_numbers_14 : decode cX11_numbers 14 = .ok (.if_icmp .le 6, 3) := by decide +kernel
theorem dX11_numbers_17 : decode cX11_numbers 17 = .ok (.bipush (-2), 2) := by decide +kernel
theorem dX11_numbers_19 : decode cX11_numbers 19 = .ok (.ireturn, 1) := by decide +kernel
theorem dX11_numbers_20 : decode cX11_numbers 20 = .ok (.iload_n 3, 1) := by decide +kernel
theorem dX11_numbers_21 : decode cX11_numbers 21 = .ok (.ifCond .lt 9, 3) := by decide +kernel
theorem dX11_numbers_24 : decode cX11_numbers 24 = .ok (.iload_n 3, 1) := by decide +kernel
theorem dX11_numbers_25 : decode cX11_numbers 25 = .ok (.bipush 40, 2) := by decide +kernel
theorem dX11_numbers_27 : decode cX11_numbers 27 = .ok (.if_icmp .le 6, 3) := by decide +kernel
theorem dX11_numbers_30 : decode cX11_numbers 30 = .ok (.bipush (-3), 2) := by decide +kernel
theorem dX11_numbers_32 : decode cX11_numbers 32 = .ok (.ireturn, 1) := by decide +kernel
theorem dX11_numbers_33 : decode cX11_numbers 33 = .ok (.aload_n 0, 1) := by decide +kernel
theorem dX11_numbers_34 : decode cX11_numbers 34 = .ok (.getfield 52, 3) := by decide +kernel
theorem dX11_numbers_37 : decode cX11_numbers 37 = .ok (.iload_n 1, 1) := by decide +kernel
theorem dX11_numbers_38 : decode cX11_numbers 38 = .ok (.aaload, 1) := by decide +kernel
theorem dX11_numbers_39 : decode cX11_numbers 39 = .ok (.iload_n 2, 1) := by decide +kernel
theorem dX11_numbers_40 : decode cX11_numbers 40 = .ok (.iload_n 3, 1) := by decide +kernel
theorem dX11_numbers_41 : decode cX11_numbers 41 = .ok (.invokevirtual 369, 3) := by decide +kernel
theorem dX11_numbers_44 : decode cX11_numbers 44 = .ok (.iconst 0, 1) := by decide +kernel
theorem dX11_numbers_45 : decode cX11_numbers 45 = .ok (.ireturn, 1) := by decide +kernel
theorem dX11_write_0 : decode cX11_write 0 = .ok (.aload_n 0, 1) := by decide +kernel
theorem dX11_write_1 : decode cX11_write 1 = .ok (.iload_n 1, 1) := by decide +kernel
theorem dX11_write_2 : decode cX11_write 2 = .ok (.invokevirtual 220, 3) := by decide +kernel
theorem dX11_write_5 : decode cX11_write 5 = .ok (.ifCond .eq 7, 3) := by decide +kernel
theorem dX11_write_8 : decode cX11_write 8 = .ok (.ldc2_w 373, 3) := by decide +kernel
theorem dX11_write_11 : decode cX11_write 11 = .ok (.lreturn, 1) := by decide +kernel
theorem dX11_write_12 : decode cX11_write 12 = .ok (.aload_n 0, 1) := by decide +kernel
theorem dX11_write_13 : decode cX11_write 13 = .ok (.getfield 52, 3) := by decide +kernel
theorem dX11_write_16 : decode cX11_write 16 = .ok (.iload_n 1, 1) := by decide +kernel
theorem dX11_write_17 : decode cX11_write 17 = .ok (.aaload, 1) := by decide +kernel
theorem dX11_write_18 : decode cX11_write 18 = .ok (.invokevirtual 223, 3) := by decide +kernel
theorem dX11_write_21 : decode cX11_write 21 = .ok (.ifCond .eq 7, 3) := by decide +kernel
theorem dX11_write_24 : decode cX11_write 24 = .ok (.ldc2_w 375, 3) := by decide +kernel
theorem dX11_write_27 : decode cX11_write 27 = .ok (.lreturn, 1) := by decide +kernel
theorem dX11_write_28 : decode cX11_write 28 = .ok (.iload_n 2, 1) := by decide +kernel
theorem dX11_write_29 : decode cX11_write 29 = .ok (.ifCond .lt 16, 3) := by decide +kernel
theorem dX11_write_32 : decode cX11_write 32 = .ok (.iload_n 2, 1) := by decide +kernel
theorem dX11_write_33 : decode cX11_write 33 = .ok (.aload_n 0, 1) := by decide +kernel
theorem dX11_write_34 : decode cX11_write 34 = .ok (.getfield 52, 3) := by decide +kernel
theorem dX11_write_37 : decode cX11_write 37 = .ok (.iload_n 1, 1) := by decide +kernel
theorem dX11_write_38 : decode cX11_write 38 = .ok (.aaload, 1) := by decide +kernel
theorem dX11_write_39 : decode cX11_write 39 = .ok (.getfield 306, 3) := by decide +kernel
theorem dX11_write_42 : decode cX11_write 42 = .ok (.if_icmp .lt 7, 3) := by decide +kernel
theorem dX11_write_45 : decode cX11_write 45 = .ok (.ldc2_w 377, 3) := by decide +kernel
theorem dX11_write_48 : decode cX11_write 48 = .ok (.lreturn, 1) := by decide +kernel
theorem dX11_write_49 : decode cX11_write 49 = .ok (.aload_n 0, 1) := by decide +kernel
theorem dX11_write_50 : decode cX11_write 50 = .ok (.getfield 52, 3) := by decide +kernel
theorem dX11_write_53 : decode cX11_write 53 = .ok (.iload_n 1, 1) := by decide +kernel
theorem dX11_write_54 : decode cX11_write 54 = .ok (.aaload, 1) := by decide +kernel
theorem dX11_write_55 : decode cX11_write 55 = .ok (.iload_n 2, 1) := by decide +kernel
theorem dX11_write_56 : decode cX11_write 56 = .ok (.lload_n 3, 1) := by decide +kernel
theorem dX11_write_57 : decode cX11_write 57 = .ok (.invokevirtual 379, 3) := by decide +kernel
theorem dX11_write_60 : decode cX11_write 60 = .ok (.aload_n 0, 1) := by decide +kernel
theorem dX11_write_61 : decode cX11_write 61 = .ok (.getfield 52, 3) := by decide +kernel
theorem dX11_write_64 : decode cX11_write 64 = .ok (.iload_n 1, 1) := by decide +kernel
theorem dX11_write_65 : decode cX11_write 65 = .ok (.aaload, 1) := by decide +kernel
theorem dX11_write_66 : decode cX11_write 66 = .ok (.iload_n 2, 1) := by decide +kernel
theorem dX11_write_67 : decode cX11_write 67 = .ok (.invokevirtual 318, 3) := by decide +kernel
theorem dX11_write_70 : decode cX11_write 70 = .ok (.lreturn, 1) := by decide +kernel
theorem dX11_lists_0 : decode cX11_lists 0 = .ok (.aload_n 0, 1) := by decide +kernel
theorem dX11_lists_1 : decode cX11_lists 1 = .ok (.iload_n 1, 1) := by decide +kernel
theorem dX11_lists_2 : decode cX11_lists 2 = .ok (.invokevirtual 220, 3) := by decide +kernel
theorem dX11_lists_5 : decode cX11_lists 5 = .ok (.ifCond .eq 6, 3) := by decide +kernel
theorem dX11_lists_8 : decode cX11_lists 8 = .ok (.bipush (-2), 2) := by decide +kernel
theorem dX11_lists_10 : decode cX11_lists 10 = .ok (.ireturn, 1) := by decide +kernel
theorem dX11_lists_11 : decode cX11_lists 11 = .ok (.aload_n 0, 1) := by decide +kernel
theorem dX11_lists_12 : decode cX11_lists 12 = .ok (.getfield 52, 3) := by decide +kernel
theorem dX11_lists_15 : decode cX11_lists 15 = .ok (.iload_n 1, 1) := by decide +kernel
theorem dX11_lists_16 : decode cX11_lists 16 = .ok (.aaload, 1) := by decide +kernel
theorem dX11_lists_17 : decode cX11_lists 17 = .ok (.astore 4, 2) := by decide +kernel
theorem dX11_lists_19 : decode cX11_lists 19 = .ok (.aload 4, 2) := by decide +kernel
theorem dX11_lists_21 : decode cX11_lists 21 = .ok (.invokevirtual 223, 3) := by decide +kernel
theorem dX11_lists_24 : decode cX11_lists 24 = .ok (.ifCond .eq 6, 3) := by decide +kernel
theorem dX11_lists_27 : decode cX11_lists 27 = .ok (.bipush (-6), 2) := by decide +kernel
theorem dX11_lists_29 : decode cX11_lists 29 = .ok (.ireturn, 1) := by decide +kernel
theorem dX11_lists_30 : decode cX11_lists 30 = .ok (.aload_n 0, 1) := by decide +kernel
theorem dX11_lists_31 : decode cX11_lists 31 = .ok (.iload_n 2, 1) := by decide +kernel
theorem dX11_lists_32 : decode cX11_lists 32 = .ok (.invokevirtual 237, 3) := by decide +kernel
theorem dX11_lists_35 : decode cX11_lists 35 = .ok (.ifCond .ne 11, 3) := by decide +kernel
theorem dX11_lists_38 : decode cX11_lists 38 = .ok (.aload_n 0, 1) := by decide +kernel
theorem dX11_lists_39 : decode cX11_lists 39 = .ok (.iload_n 3, 1) := by decide +kernel
theorem dX11_lists_40 : decode cX11_lists 40 = .ok (.invokevirtual 237, 3) := by decide +kernel
theorem dX11_lists_43 : decode cX11_lists 43 = .ok (.ifCond .eq 6, 3) := by decide +kernel
theorem dX11_lists_46 : decode cX11_lists 46 = .ok (.bipush (-3), 2) := by decide +kernel
theorem dX11_lists_48 : decode cX11_lists 48 = .ok (.ireturn, 1) := by decide +kernel
theorem dX11_lists_49 : decode cX11_lists 49 = .ok (.aload_n 0, 1) := by decide +kernel
theorem dX11_lists_50 : decode cX11_lists 50 = .ok (.iload_n 2, 1) := by decide +kernel
theorem dX11_lists_51 : decode cX11_lists 51 = .ok (.iload_n 3, 1) := by decide +kernel
theorem dX11_lists_52 : decode cX11_lists 52 = .ok (.invokevirtual 240, 3) := by decide +kernel
theorem dX11_lists_55 : decode cX11_lists 55 = .ok (.istore 5, 2) := by decide +kernel
theorem dX11_lists_57 : decode cX11_lists 57 = .ok (.iload 5, 2) := by decide +kernel
theorem dX11_lists_59 : decode cX11_lists 59 = .ok (.ifCond .ge 6, 3) := by decide +kernel
theorem dX11_lists_62 : decode cX11_lists 62 = .ok (.bipush (-5), 2) := by decide +kernel
theorem dX11_lists_64 : decode cX11_lists 64 = .ok (.ireturn, 1) := by decide +kernel
theorem dX11_lists_65 : decode cX11_lists 65 = .ok (.aload 4, 2) := by decide +kernel
theorem dX11_lists_67 : decode cX11_lists 67 = .ok (.getfield 306, 3) := by decide +kernel
theorem dX11_lists_70 : decode cX11_lists 70 = .ok (.aload_n 0, 1) := by decide +kernel
theorem dX11_lists_71 : decode cX11_lists 71 = .ok (.getfield 66, 3) := by decide +kernel
theorem dX11_lists_74 : decode cX11_lists 74 = .ok (.iload 5, 2) := by decide +kernel
theorem dX11_lists_76 : decode cX11_lists 76 = .ok (.invokevirtual 243, 3) := by decide +kernel
theorem dX11_lists_79 : decode cX11_lists 79 = .ok (.invokestatic 383, 3) := by decide +kernel
theorem dX11_lists_82 : decode cX11_lists 82 = .ok (.istore 6, 2) := by decide +kernel
theorem dX11_lists_84 : decode cX11_lists 84 = .ok (.iconst 0, 1) := by decide +kernel
theorem dX11_lists_85 : decode cX11_lists 85 = .ok (.istore 7, 2) := by decide +kernel
theorem dX11_lists_87 : decode cX11_lists 87 = .ok (.iload 7, 2) := by decide +kernel
theorem dX11_lists_89 : decode cX11_lists 89 = .ok (.iload 6, 2) := by decide +kernel
theorem dX11_lists_91 : decode cX11_lists 91 = .ok (.if_icmp .ge 45, 3) := by decide +kernel
theorem dX11_lists_94 : decode cX11_lists 94 = .ok (.aload_n 0, 1) := by decide +kernel
theorem dX11_lists_95 : decode cX11_lists 95 = .ok (.getfield 66, 3) := by decide +kernel
theorem dX11_lists_98 : decode cX11_lists 98 = .ok (.iload 5, 2) := by decide +kernel
theorem dX11_lists_100 : decode cX11_lists 100 = .ok (.iload 7, 2) := by decide +kernel
theorem dX11_lists_102 : decode cX11_lists 102 = .ok (.invokevirtual 262, 3) := by decide +kernel
theorem dX11_lists_105 : decode cX11_lists 105 = .ok (.istore 8, 2) := by decide +kernel
theorem dX11_lists_107 : decode cX11_lists 107 = .ok (.aload 4, 2) := by decide +kernel
theorem dX11_lists_109 : decode cX11_lists 109 = .ok (.iload 7, 2) := by decide +kernel
theorem dX11_lists_111 : decode cX11_lists 111 = .ok (.iload 8, 2) := by decide +kernel
theorem dX11_lists_113 : decode cX11_lists 113 = .ok (.bipush 20, 2) := by decide +kernel
theorem dX11_lists_115 : decode cX11_lists 115 = .ok (.if_icmp .ne 9, 3) := by decide +kernel
theorem dX11_lists_118 : decode cX11_lists 118 = .ok (.ldc2_w 336, 3) := by decide +kernel
theorem dX11_lists_121 : decode cX11_lists 121 = .ok (.goto 6, 3) := by decide +kernel
theorem dX11_lists_124 : decode cX11_lists 124 = .ok (.iload 8, 2) := by decide +kernel
theorem dX11_lists_126 : decode cX11_lists 126 = .ok (.i2l, 1) := by decide +kernel
theorem dX11_lists_127 : decode cX11_lists 127 = .ok (.invokevirtual 379, 3) := by decide +kernel
theorem dX11_lists_130 : decode cX11_lists 130 = .ok (.iinc 7 1, 3) := by decide +kernel
theorem dX11_lists_133 : decode cX11_lists 133 = .ok (.goto (-46), 3) := by decide +kernel
theorem dX11_lists_136 : decode cX11_lists 136 = .ok (.iload 6, 2) := by decide +kernel
theorem dX11_lists_138 : decode cX11_lists 138 = .ok (.ireturn, 1) := by decide +kernel
theorem dX11_image_0 : decode cX11_image 0 = .ok (.aload_n 0, 1) := by decide +kernel
theorem dX11_image_1 : decode cX11_image 1 = .ok (.iload_n 1, 1) := by decide +kernel
theorem dX11_image_2 : decode cX11_image 2 = .ok (.invokevirtual 386, 3) := by decide +kernel
theorem dX11_image_5 : decode cX11_image 5 = .ok (.ifCond .eq 6, 3) := by decide +kernel
theorem dX11_image_8 : decode cX11_image 8 = .ok (.bipush (-2), 2) := by decide +kernel
theorem dX11_image_10 : decode cX11_image 10 = .ok (.ireturn, 1) := by decide +kernel
theorem dX11_image_11 : decode cX11_image 11 = .ok (.aload_n 0, 1) := by decide +kernel
theorem dX11_image_12 : decode cX11_image 12 = .ok (.getfield 56, 3) := by decide +kernel
theorem dX11_image_15 : decode cX11_image 15 = .ok (.iload_n 1, 1) := by decide +kernel
theorem dX11_image_16 : decode cX11_image 16 = .ok (.aload_n 0, 1) := by decide +kernel
theorem dX11_image_17 : decode cX11_image 17 = .ok (.getfield 20, 3) := by decide +kernel
theorem dX11_image_20 : decode cX11_image 20 = .ok (.aastore, 1) := by decide +kernel
theorem dX11_image_21 : decode cX11_image 21 = .ok (.aload_n 0, 1) := by decide +kernel
theorem dX11_image_22 : decode cX11_image 22 = .ok (.getfield 59, 3) := by decide +kernel
theorem dX11_image_25 : decode cX11_image 25 = .ok (.iload_n 1, 1) := by decide +kernel
theorem dX11_image_26 : decode cX11_image 26 = .ok (.aaload, 1) := by decide +kernel
theorem dX11_image_27 : decode cX11_image 27 = .ok (.aload_n 0, 1) := by decide +kernel
theorem dX11_image_28 : decode cX11_image 28 = .ok (.getfield 36, 3) := by decide +kernel
theorem dX11_image_31 : decode cX11_image 31 = .ok (.invokevirtual 187, 3) := by decide +kernel
theorem dX11_image_34 : decode cX11_image 34 = .ok (.iconst 0, 1) := by decide +kernel
theorem dX11_image_35 : decode cX11_image 35 = .ok (.ireturn, 1) := by decide +kernel
theorem dX11_restore_0 : decode cX11_restore 0 = .ok (.aload_n 0, 1) := by decide +kernel
theorem dX11_restore_1 : decode cX11_restore 1 = .ok (.iload_n 1, 1) := by decide +kernel
theorem dX11_restore_2 : decode cX11_restore 2 = .ok (.invokevirtual 386, 3) := by decide +kernel
theorem dX11_restore_5 : decode cX11_restore 5 = .ok (.ifCond .eq 6, 3) := by decide +kernel
theorem dX11_restore_8 : decode cX11_restore 8 = .ok (.bipush (-2), 2) := by decide +kernel
theorem dX11_restore_10 : decode cX11_restore 10 = .ok (.ireturn, 1) := by decide +kernel
theorem dX11_restore_11 : decode cX11_restore 11 = .ok (.aload_n 0, 1) := by decide +kernel
theorem dX11_restore_12 : decode cX11_restore 12 = .ok (.getfield 56, 3) := by decide +kernel
theorem dX11_restore_15 : decode cX11_restore 15 = .ok (.iload_n 1, 1) := by decide +kernel
theorem dX11_restore_16 : decode cX11_restore 16 = .ok (.aaload, 1) := by decide +kernel
theorem dX11_restore_17 : decode cX11_restore 17 = .ok (.astore_n 2, 1) := by decide +kernel
theorem dX11_restore_18 : decode cX11_restore 18 = .ok (.aload_n 2, 1) := by decide +kernel
theorem dX11_restore_19 : decode cX11_restore 19 = .ok (.ifnonnull 6, 3) := by decide +kernel
theorem dX11_restore_22 : decode cX11_restore 22 = .ok (.bipush (-5), 2) := by decide +kernel
theorem dX11_restore_24 : decode cX11_restore 24 = .ok (.ireturn, 1) := by decide +kernel
theorem dX11_restore_25 : decode cX11_restore 25 = .ok (.aload_n 0, 1) := by decide +kernel
theorem dX11_restore_26 : decode cX11_restore 26 = .ok (.aload_n 2, 1) := by decide +kernel
theorem dX11_restore_27 : decode cX11_restore 27 = .ok (.putfield 20, 3) := by decide +kernel
theorem dX11_restore_30 : decode cX11_restore 30 = .ok (.aload_n 0, 1) := by decide +kernel
theorem dX11_restore_31 : decode cX11_restore 31 = .ok (.getfield 36, 3) := by decide +kernel
theorem dX11_restore_34 : decode cX11_restore 34 = .ok (.aload_n 0, 1) := by decide +kernel
theorem dX11_restore_35 : decode cX11_restore 35 = .ok (.getfield 59, 3) := by decide +kernel
theorem dX11_restore_38 : decode cX11_restore 38 = .ok (.iload_n 1, 1) := by decide +kernel
theorem dX11_restore_39 : decode cX11_restore 39 = .ok (.aaload, 1) := by decide +kernel
theorem dX11_restore_40 : decode cX11_restore 40 = .ok (.invokevirtual 187, 3) := by decide +kernel
theorem dX11_restore_43 : decode cX11_restore 43 = .ok (.aload_n 0, 1) := by decide +kernel
theorem dX11_restore_44 : decode cX11_restore 44 = .ok (.getfield 46, 3) := by decide +kernel
theorem dX11_restore_47 : decode cX11_restore 47 = .ok (.invokevirtual 136, 3) := by decide +kernel
theorem dX11_restore_50 : decode cX11_restore 50 = .ok (.iconst 0, 1) := by decide +kernel
theorem dX11_restore_51 : decode cX11_restore 51 = .ok (.ireturn, 1) := by decide +kernel
theorem dX11_noImage_0 : decode cX11_noImage 0 = .ok (.iload_n 1, 1) := by decide +kernel
theorem dX11_noImage_1 : decode cX11_noImage 1 = .ok (.ifCond .lt 21, 3) := by decide +kernel
theorem dX11_noImage_4 : decode cX11_noImage 4 = .ok (.iload_n 1, 1) := by decide +kernel
theorem dX11_noImage_5 : decode cX11_noImage 5 = .ok (.aload_n 0, 1) := by decide +kernel
theorem dX11_noImage_6 : decode cX11_noImage 6 = .ok (.getfield 56, 3) := by decide +kernel
theorem dX11_noImage_9 : decode cX11_noImage 9 = .ok (.arraylength, 1) := by decide +kernel
theorem dX11_noImage_10 : decode cX11_noImage 10 = .ok (.if_icmp .ge 12, 3) := by decide +kernel
theorem dX11_noImage_13 : decode cX11_noImage 13 = .ok (.iload_n 1, 1) := by decide +kernel
theorem dX11_noImage_14 : decode cX11_noImage 14 = .ok (.aload_n 0, 1) := by decide +kernel
theorem dX11_noImage_15 : decode cX11_noImage 15 = .ok (.getfield 59, 3) := by decide +kernel
theorem dX11_noImage_18 : decode cX11_noImage 18 = .ok (.arraylength, 1) := by decide +kernel
theorem dX11_noImage_19 : decode cX11_noImage 19 = .ok (.if_icmp .lt 7, 3) := by decide +kernel
theorem dX11_noImage_22 : decode cX11_noImage 22 = .ok (.iconst 1, 1) := by decide +kernel
theorem dX11_noImage_23 : decode cX11_noImage 23 = .ok (.goto 4, 3) := by decide +kernel
theorem dX11_noImage_26 : decode cX11_noImage 26 = .ok (.iconst 0, 1) := by decide +kernel
theorem dX11_noImage_27 : decode cX11_noImage 27 = .ok (.ireturn, 1) := by decide +kernel
theorem dX11_count_0 : decode cX11_count 0 = .ok (.iload_n 1, 1) := by decide +kernel
theorem dX11_count_1 : decode cX11_count 1 = .ok (.tableswitch 135 0 8 #[51, 59, 67, 79, 91, 99, 114, 122, 127], 51) := by decide +kernel
theorem dX11_count_52 : decode cX11_count 52 = .ok (.aload_n 0, 1) := by decide +kernel
theorem dX11_count_53 : decode cX11_count 53 = .ok (.getfield 20, 3) := by decide +kernel
theorem dX11_count_56 : decode cX11_count 56 = .ok (.getfield 181, 3) := by decide +kernel
theorem dX11_count_59 : decode cX11_count 59 = .ok (.ireturn, 1) := by decide +kernel
theorem dX11_count_60 : decode cX11_count 60 = .ok (.aload_n 0, 1) := by decide +kernel
theorem dX11_count_61 : decode cX11_count 61 = .ok (.getfield 20, 3) := by decide +kernel
theorem dX11_count_64 : decode cX11_count 64 = .ok (.getfield 184, 3) := by decide +kernel
theorem dX11_count_67 : decode cX11_count 67 = .ok (.ireturn, 1) := by decide +kernel
theorem dX11_count_68 : decode cX11_count 68 = .ok (.aload_n 0, 1) := by decide +kernel
theorem dX11_count_69 : decode cX11_count 69 = .ok (.getfield 36, 3) := by decide +kernel
theorem dX11_count_72 : decode cX11_count 72 = .ok (.getfield 127, 3) := by decide +kernel
theorem dX11_count_75 : decode cX11_count 75 = .ok (.iconst 0, 1) := by decide +kernel
theorem dX11_count_76 : decode cX11_count 76 = .ok (.invokestatic 389, 3) := by decide +kernel
theorem dX11_count_79 : decode cX11_count 79 = .ok (.ireturn, 1) := by decide +kernel
theorem dX11_count_80 : decode cX11_count 80 = .ok (.aload_n 0, 1) := by decide +kernel
theorem dX11_count_81 : decode cX11_count 81 = .ok (.getfield 36, 3) := by decide +kernel
theorem dX11_count_84 : decode cX11_count 84 = .ok (.getfield 127, 3) := by decide +kernel
theorem dX11_count_87 : decode cX11_count 87 = .ok (.iconst 1, 1) := by decide +kernel
theorem dX11_count_88 : decode cX11_count 88 = .ok (.invokestatic 389, 3) := by decide +kernel
theorem dX11_count_91 : decode cX11_count 91 = .ok (.ireturn, 1) := by decide +kernel
theorem dX11_count_92 : decode cX11_count 92 = .ok (.aload_n 0, 1) := by decide +kernel
theorem dX11_count_93 : decode cX11_count 93 = .ok (.getfield 36, 3) := by decide +kernel
theorem dX11_count_96 : decode cX11_count 96 = .ok (.getfield 133, 3) := by decide +kernel
theorem dX11_count_99 : decode cX11_count 99 = .ok (.ireturn, 1) := by decide +kernel
theorem dX11_count_100 : decode cX11_count 100 = .ok (.aload_n 0, 1) := by decide +kernel
theorem dX11_count_101 : decode cX11_count 101 = .ok (.getfield 20, 3) := by decide +kernel
theorem dX11_count_104 : decode cX11_count 104 = .ok (.aload_n 0, 1) := by decide +kernel
theorem dX11_count_105 : decode cX11_count 105 = .ok (.getfield 36, 3) := by decide +kernel
theorem dX11_count_108 : decode cX11_count 108 = .ok (.getfield 127, 3) := by decide +kernel
theorem dX11_count_111 : decode cX11_count 111 = .ok (.invokevirtual 201, 3) := by decide +kernel
theorem dX11_count_114 : decode cX11_count 114 = .ok (.ireturn, 1) := by decide +kernel
theorem dX11_count_115 : decode cX11_count 115 = .ok (.aload_n 0, 1) := by decide +kernel
theorem dX11_count_116 : decode cX11_count 116 = .ok (.getfield 46, 3) := by decide +kernel
theorem dX11_count_119 : decode cX11_count 119 = .ok (.getfield 213, 3) := by decide +kernel
theorem dX11_count_122 : decode cX11_count 122 = .ok (.ireturn, 1) := by decide +kernel
theorem dX11_count_123 : decode cX11_count 123 = .ok (.aload_n 0, 1) := by decide +kernel
theorem dX11_count_124 : decode cX11_count 124 = .ok (.getfield 102, 3) := by decide +kernel
theorem dX11_count_127 : decode cX11_count 127 = .ok (.ireturn, 1) := by decide +kernel
theorem dX11_count_128 : decode cX11_count 128 = .ok (.aload_n 0, 1) := by decide +kernel
theorem dX11_count_129 : decode cX11_count 129 = .ok (.getfield 20, 3) := by decide +kernel
theorem dX11_count_132 : decode cX11_count 132 = .ok (.getfield 139, 3) := by decide +kernel
theorem dX11_count_135 : decode cX11_count 135 = .ok (.ireturn, 1) := by decide +kernel
theorem dX11_count_136 : decode cX11_count 136 = .ok (.iconst (-1), 1) := by decide +kernel
theorem dX11_count_137 : decode cX11_count 137 = .ok (.ireturn, 1) := by decide +kernel
