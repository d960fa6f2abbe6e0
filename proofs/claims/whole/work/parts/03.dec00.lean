theorem dX0_init_0 : decode cX0_init 0 = .ok (.aload_n 0, 1) := by decide +kernel
theorem dX0_init_1 : decode cX0_init 1 = .ok (.invokespecial 3, 3) := by decide +kernel
theorem dX0_init_4 : decode cX0_init 4 = .ok (.aload_n 0, 1) := by decide +kernel
theorem dX0_init_5 : decode cX0_init 5 = .ok (.iconst 0, 1) := by decide +kernel
theorem dX0_init_6 : decode cX0_init 6 = .ok (.newarray .long, 2) := by decide +kernel
theorem dX0_init_8 : decode cX0_init 8 = .ok (.putfield 9, 3) := by decide +kernel
theorem dX0_init_11 : decode cX0_init 11 = .ok (.aload_n 0, 1) := by decide +kernel
theorem dX0_init_12 : decode cX0_init 12 = .ok (.iconst 0, 1) := by decide +kernel
theorem dX0_init_13 : decode cX0_init 13 = .ok (.newarray .long, 2) := by decide +kernel
theorem dX0_init_15 : decode cX0_init 15 = .ok (.putfield 15, 3) := by decide +kernel
theorem dX0_init_18 : decode cX0_init 18 = .ok (.aload_n 0, 1) := by decide +kernel
theorem dX0_init_19 : decode cX0_init 19 = .ok (.iconst (-1), 1) := by decide +kernel
theorem dX0_init_20 : decode cX0_init 20 = .ok (.putfield 18, 3) := by decide +kernel
theorem dX0_init_23 : decode cX0_init 23 = .ok (.aload_n 0, 1) := by decide +kernel
theorem dX0_init_24 : decode cX0_init 24 = .ok (.aload_n 1, 1) := by decide +kernel
theorem dX0_init_25 : decode cX0_init 25 = .ok (.putfield 22, 3) := by decide +kernel
theorem dX0_init_28 : decode cX0_init 28 = .ok (.aload_n 0, 1) := by decide +kernel
theorem dX0_init_29 : decode cX0_init 29 = .ok (.aload_n 2, 1) := by decide +kernel
theorem dX0_init_30 : decode cX0_init 30 = .ok (.putfield 26, 3) := by decide +kernel
theorem dX0_init_33 : decode cX0_init 33 = .ok (.aload_n 0, 1) := by decide +kernel
theorem dX0_init_34 : decode cX0_init 34 = .ok (.aload_n 3, 1) := by decide +kernel
theorem dX0_init_35 : decode cX0_init 35 = .ok (.putfield 30, 3) := by decide +kernel
theorem dX0_init_38 : decode cX0_init 38 = .ok (.return_, 1) := by decide +kernel
theorem dX0_work_0 : decode cX0_work 0 = .ok (.iload_n 1, 1) := by decide +kernel
theorem dX0_work_1 : decode cX0_work 1 = .ok (.iconst (-1), 1) := by decide +kernel
theorem dX0_work_2 : decode cX0_work 2 = .ok (.if_icmp .eq 12, 3) := by decide +kernel
theorem dX0_work_5 : decode cX0_work 5 = .ok (.iload_n 2, 1) := by decide +kernel
theorem dX0_work_6 : decode cX0_work 6 = .ok (.ifCond .lt 8, 3) := by decide +kernel
theorem dX0_work_9 : decode cX0_work 9 = .ok (.iload_n 2, 1) := by decide +kernel
theorem dX0_work_10 : decode cX0_work 10 = .ok (.iconst 3, 1) := by decide +kernel
theorem dX0_work_11 : decode cX0_work 11 = .ok (.if_icmp .le 5, 3) := by decide +kernel
theorem dX0_work_14 : decode cX0_work 14 = .ok (.iconst 0, 1) := by decide +kernel
theorem dX0_work_15 : decode cX0_work 15 = .ok (.ireturn, 1) := by decide +kernel
theorem dX0_work_16 : decode cX0_work 16 = .ok (.aload_n 0, 1) := by decide +kernel
theorem dX0_work_17 : decode cX0_work 17 = .ok (.getfield 34, 3) := by decide +kernel
theorem dX0_work_20 : decode cX0_work 20 = .ok (.iload_n 1, 1) := by decide +kernel
theorem dX0_work_21 : decode cX0_work 21 = .ok (.if_icmp .ne 41, 3) := by decide +kernel
theorem dX0_work_24 : decode cX0_work 24 = .ok (.aload_n 0, 1) := by decide +kernel
theorem dX0_work_25 : decode cX0_work 25 = .ok (.getfield 18, 3) := by decide +kernel
theorem dX0_work_28 : decode cX0_work 28 = .ok (.iload_n 2, 1) := by decide +kernel
theorem dX0_work_29 : decode cX0_work 29 = .ok (.if_icmp .ne 33, 3) := by decide +kernel
theorem dX0_work_32 : decode cX0_work 32 = .ok (.aload_n 0, 1) := by decide +kernel
theorem dX0_work_33 : decode cX0_work 33 = .ok (.getfield 37, 3) := by decide +kernel
theorem dX0_work_36 : decode cX0_work 36 = .ok (.aload_n 0, 1) := by decide +kernel
theorem dX0_work_37 : decode cX0_work 37 = .ok (.getfield 22, 3) := by decide +kernel
theorem dX0_work_40 : decode cX0_work 40 = .ok (.getfield 40, 3) := by decide +kernel
theorem dX0_work_43 : decode cX0_work 43 = .ok (.if_icmp .ne 19, 3) := by decide +kernel
theorem dX0_work_46 : decode cX0_work 46 = .ok (.aload_n 0, 1) := by decide +kernel
theorem dX0_work_47 : decode cX0_work 47 = .ok (.getfield 43, 3) := by decide +kernel
theorem dX0_work_50 : decode cX0_work 50 = .ok (.aload_n 0, 1) := by decide +kernel
theorem dX0_work_51 : decode cX0_work 51 = .ok (.getfield 22, 3) := by decide +kernel
theorem dX0_work_54 : decode cX0_work 54 = .ok (.getfield 46, 3) := by decide +kernel
theorem dX0_work_57 : decode cX0_work 57 = .ok (.if_icmp .ne 5, 3) := by decide +kernel
theorem dX0_work_60 : decode cX0_work 60 = .ok (.iconst 1, 1) := by decide +kernel
theorem dX0_work_61 : decode cX0_work 61 = .ok (.ireturn, 1) := by decide +kernel
theorem dX0_work_62 : decode cX0_work 62 = .ok (.aload_n 0, 1) := by decide +kernel
theorem dX0_work_63 : decode cX0_work 63 = .ok (.getfield 9, 3) := by decide +kernel
theorem dX0_work_66 : decode cX0_work 66 = .ok (.arraylength, 1) := by decide +kernel
theorem dX0_work_67 : decode cX0_work 67 = .ok (.ifCond .ne 21, 3) := by decide +kernel
theorem dX0_work_70 : decode cX0_work 70 = .ok (.aload_n 0, 1) := by decide +kernel
theorem dX0_work_71 : decode cX0_work 71 = .ok (.sipush 9331, 3) := by decide +kernel
theorem dX0_work_74 : decode cX0_work 74 = .ok (.newarray .long, 2) := by decide +kernel
theorem dX0_work_76 : decode cX0_work 76 = .ok (.putfield 9, 3) := by decide +kernel
theorem dX0_work_79 : decode cX0_work 79 = .ok (.aload_n 0, 1) := by decide +kernel
theorem dX0_work_80 : decode cX0_work 80 = .ok (.sipush 9331, 3) := by decide +kernel
theorem dX0_work_83 : decode cX0_work 83 = .ok (.newarray .long, 2) := by decide +kernel
theorem dX0_work_85 : decode cX0_work 85 = .ok (.putfield 15, 3) := by decide +kernel
theorem dX0_work_88 : decode cX0_work 88 = .ok (.aload_n 0, 1) := by decide +kernel
theorem dX0_work_89 : decode cX0_work 89 = .ok (.iload_n 1, 1) := by decide +kernel
theorem dX0_work_90 : decode cX0_work 90 = .ok (.putfield 34, 3) := by decide +kernel
theorem dX0_work_93 : decode cX0_work 93 = .ok (.aload_n 0, 1) := by decide +kernel
theorem dX0_work_94 : decode cX0_work 94 = .ok (.iload_n 2, 1) := by decide +kernel
theorem dX0_work_95 : decode cX0_work 95 = .ok (.putfield 18, 3) := by decide +kernel
theorem dX0_work_98 : decode cX0_work 98 = .ok (.aload_n 0, 1) := by decide +kernel
theorem dX0_work_99 : decode cX0_work 99 = .ok (.aload_n 0, 1) := by decide +kernel
theorem dX0_work_100 : decode cX0_work 100 = .ok (.getfield 22, 3) := by decide +kernel
theorem dX0_work_103 : decode cX0_work 103 = .ok (.getfield 40, 3) := by decide +kernel
theorem dX0_work_106 : decode cX0_work 106 = .ok (.putfield 37, 3) := by decide +kernel
theorem dX0_work_109 : decode cX0_work 109 = .ok (.aload_n 0, 1) := by decide +kernel
theorem dX0_work_110 : decode cX0_work 110 = .ok (.aload_n 0, 1) := by decide +kernel
theorem dX0_work_111 : decode cX0_work 111 = .ok (.getfield 22, 3) := by decide +kernel
theorem dX0_work_114 : decode cX0_work 114 = .ok (.getfield 46, 3) := by decide +kernel
theorem dX0_work_117 : decode cX0_work 117 = .ok (.putfield 43, 3) := by decide +kernel
theorem dX0_work_120 : decode cX0_work 120 = .ok (.aload_n 0, 1) := by decide +kernel
theorem dX0_work_121 : decode cX0_work 121 = .ok (.getfield 26, 3) := by decide +kernel
theorem dX0_work_124 : decode cX0_work 124 = .ok (.aload_n 0, 1) := by decide +kernel
theorem dX0_work_125 : decode cX0_work 125 = .ok (.getfield 37, 3) := by decide +kernel
theorem dX0_work_128 : decode cX0_work 128 = .ok (.invokevirtual 47, 3) := by decide +kernel
theorem dX0_work_131 : decode cX0_work 131 = .ok (.aload_n 0, 1) := by decide +kernel
theorem dX0_work_132 : decode cX0_work 132 = .ok (.getfield 9, 3) := by decide +kernel
theorem dX0_work_135 : decode cX0_work 135 = .ok (.lconst 0, 1) := by decide +kernel
theorem dX0_work_136 : decode cX0_work 136 = .ok (.invokestatic 53, 3) := by decide +kernel
theorem dX0_work_139 : decode cX0_work 139 = .ok (.aload_n 0, 1) := by decide +kernel
theorem dX0_work_140 : decode cX0_work 140 = .ok (.getfield 9, 3) := by decide +kernel
theorem dX0_work_143 : decode cX0_work 143 = .ok (.iload_n 1, 1) := by decide +kernel
theorem dX0_work_144 : decode cX0_work 144 = .ok (.ldc2_w 59, 3) := by decide +kernel
theorem dX0_work_147 : decode cX0_work 147 = .ok (.lastore, 1) := by decide +kernel
theorem dX0_work_148 : decode cX0_work 148 = .ok (.iconst 0, 1) := by decide +kernel
theorem dX0_work_149 : decode cX0_work 149 = .ok (.istore_n 3, 1) := by decide +kernel
theorem dX0_work_150 : decode cX0_work 150 = .ok (.iload_n 3, 1) := by decide +kernel
theorem dX0_work_151 : decode cX0_work 151 = .ok (.iload_n 2, 1) := by decide +kernel
theorem dX0_work_152 : decode cX0_work 152 = .ok (.if_icmp .ge 81, 3) := by decide +kernel
theorem dX0_work_155 : decode cX0_work 155 = .ok (.aload_n 0, 1) := by decide +kernel
theorem dX0_work_156 : decode cX0_work 156 = .ok (.getfield 15, 3) := by decide +kernel
theorem dX0_work_159 : decode cX0_work 159 = .ok (.lconst 0, 1) := by decide +kernel
theorem dX0_work_160 : decode cX0_work 160 = .ok (.invokestatic 53, 3) := by decide +kernel
theorem dX0_work_163 : decode cX0_work 163 = .ok (.iconst 0, 1) := by decide +kernel
theorem dX0_work_164 : decode cX0_work 164 = .ok (.istore 4, 2) := by decide +kernel
theorem dX0_work_166 : decode cX0_work 166 = .ok (.iload 4, 2) := by decide +kernel
theorem dX0_work_168 : decode cX0_work 168 = .ok (.sipush 9331, 3) := by decide +kernel
theorem dX0_work_171 : decode cX0_work 171 = .ok (.if_icmp .ge 36, 3) := by decide +kernel
theorem dX0_work_174 : decode cX0_work 174 = .ok (.aload_n 0, 1) := by decide +kernel
theorem dX0_work_175 : decode cX0_work 175 = .ok (.getfield 9, 3) := by decide +kernel
theorem dX0_work_178 : decode cX0_work 178 = .ok (.iload 4, 2) := by decide +kernel
theorem dX0_work_180 : decode cX0_work 180 = .ok (.laload, 1) := by decide +kernel
theorem dX0_work_181 : decode cX0_work 181 = .ok (.lconst 0, 1) := by decide +kernel
theorem dX0_work_182 : decode cX0_work 182 = .ok (.lcmp, 1) := by decide +kernel
theorem dX0_work_183 : decode cX0_work 183 = .ok (.ifCond .le 18, 3) := by decide +kernel
theorem dX0_work_186 : decode cX0_work 186 = .ok (.aload_n 0, 1) := by decide +kernel
theorem dX0_work_187 : decode cX0_work 187 = .ok (.getfield 30, 3) := by decide +kernel
theorem dX0_work_190 : decode cX0_work 190 = .ok (.iload 4, 2) := by decide +kernel
theorem dX0_work_192 : decode cX0_work 192 = .ok (.invokevirtual 61, 3) := by decide +kernel
theorem dX0_work_195 : decode cX0_work 195 = .ok (.aload_n 0, 1) := by decide +kernel
theorem dX0_work_196 : decode cX0_work 196 = .ok (.iload 4, 2) := by decide +kernel
theorem dX0_work_198 : decode cX0_work 198 = .ok (.invokevirtual 66, 3) := by decide +kernel
theorem dX0_work_201 : decode cX0_work 201 = .ok (.iinc 4 1, 3) := by decide +kernel
theorem dX0_work_204 : decode cX0_work 204 = .ok (.goto (-38), 3) := by decide +kernel
theorem dX0_work_207 : decode cX0_work 207 = .ok (.aload_n 0, 1) := by decide +kernel
theorem dX0_work_208 : decode cX0_work 208 = .ok (.getfield 9, 3) := by decide +kernel
theorem dX0_work_211 : decode cX0_work 211 = .ok (.astore 4, 2) := by decide +kernel
theorem dX0_work_213 : decode cX0_work 213 = .ok (.aload_n 0, 1) := by decide +kernel
theorem dX0_work_214 : decode cX0_work 214 = .ok (.aload_n 0, 1) := by decide +kernel
theorem dX0_work_215 : decode cX0_work 215 = .ok (.getfield 15, 3) := by decide +kernel
theorem dX0_work_218 : decode cX0_work 218 = .ok (.putfield 9, 3) := by decide +kernel
theorem dX0_work_221 : decode cX0_work 221 = .ok (.aload_n 0, 1) := by decide +kernel
theorem dX0_work_222 : decode cX0_work 222 = .ok (.aload 4, 2) := by decide +kernel
theorem dX0_work_224 : decode cX0_work 224 = .ok (.putfield 15, 3) := by decide +kernel
theorem dX0_work_227 : decode cX0_work 227 = .ok (.iinc 3 1, 3) := by decide +kernel
theorem dX0_work_230 : decode cX0_work 230 = .ok (.goto (-80), 3) := by decide +kernel
theorem dX0_work_233 : decode cX0_work 233 = .ok (.iconst 1, 1) := by decide +kernel
theorem dX0_work_234 : decode cX0_work 234 = .ok (.ireturn, 1) := by decide +kernel
theorem dX0_handOn_0 : decode cX0_handOn 0 = .ok (.aload_n 0, 1) := by decide +kernel
theorem dX0_handOn_1 : decode cX0_handOn 1 = .ok (.getfield 30, 3) := by decide +kernel
theorem dX0_handOn_4 : decode cX0_handOn 4 = .ok (.getfield 69, 3) := by decide +kernel
theorem dX0_handOn_7 : decode cX0_handOn 7 = .ok (.ifCond .gt 19, 3) := by decide +kernel
theorem dX0_handOn_10 : decode cX0_handOn 10 = .ok (.aload_n 0, 1) := by decide +kernel
theorem dX0_handOn_11 : decode cX0_handOn 11 = .ok (.getfield 15, 3) := by decide +kernel
theorem dX0_handOn_14 : decode cX0_handOn 14 = .ok (.iload_n 1, 1) := by decide +kernel
theorem dX0_handOn_15 : decode cX0_handOn 15 = .ok (.dup2, 1) := by decide +kernel
theorem dX0_handOn_16 : decode cX0_handOn 16 = .ok (.laload, 1) := by decide +kernel
theorem dX0_handOn_17 : decode cX0_handOn 17 = .ok (.aload_n 0, 1) := by decide +kernel
theorem dX0_handOn_18 : decode cX0_handOn 18 = .ok (.getfield 9, 3) := by decide +kernel
theorem dX0_handOn_21 : decode cX0_handOn 21 = .ok (.iload_n 1, 1) := by decide +kernel
theorem dX0_handOn_22 : decode cX0_handOn 22 = .ok (.laload, 1) := by decide +kernel
theorem dX0_handOn_23 : decode cX0_handOn 23 = .ok (.ladd, 1) := by decide +kernel
theorem dX0_handOn_24 : decode cX0_handOn 24 = .ok (.lastore, 1) := by decide +kernel
theorem dX0_handOn_25 : decode cX0_handOn 25 = .ok (.return_, 1) := by decide +kernel
theorem dX0_handOn_26 : decode cX0_handOn 26 = .ok (.iconst 0, 1) := by decide +kernel
theorem dX0_handOn_27 : decode cX0_handOn 27 = .ok (.istore_n 2, 1) := by decide +kernel
theorem dX0_handOn_28 : decode cX0_handOn 28 = .ok (.iload_n 2, 1) := by decide +kernel
theorem dX0_handOn_29 : decode cX0_handOn 29 = .ok (.aload_n 0, 1) := by decide +kernel
theorem dX0_handOn_30 : decode cX0_handOn 30 = .ok (.getfield 30, 3) := by decide +kernel
theorem dX0_handOn_33 : decode cX0_handOn 33 = .ok (.getfield 72, 3) := by decide +kernel
theorem dX0_handOn_36 : decode cX0_handOn 36 = .ok (.if_icmp .ge 52, 3) := by decide +kernel
theorem dX0_handOn_39 : decode cX0_handOn 39 = .ok (.aload_n 0, 1) := by decide +kernel
theorem dX0_handOn_40 : decode cX0_handOn 40 = .ok (.getfield 15, 3) := by decide +kernel
theorem dX0_handOn_43 : decode cX0_handOn 43 = .ok (.aload_n 0, 1) := by decide +kernel
theorem dX0_handOn_44 : decode cX0_handOn 44 = .ok (.getfield 30, 3) := by decide +kernel
theorem dX0_handOn_47 : decode cX0_handOn 47 = .ok (.getfield 75, 3) := by decide +kernel
theorem dX0_handOn_50 : decode cX0_handOn 50 = .ok (.iload_n 2, 1) := by decide +kernel
theorem dX0_handOn_51 : decode cX0_handOn 51 = .ok (.iaload, 1) := by decide +kernel
theorem dX0_handOn_52 : decode cX0_handOn 52 = .ok (.dup2, 1) := by decide +kernel
theorem dX0_handOn_53 : decode cX0_handOn 53 = .ok (.laload, 1) := by decide +kernel
theorem dX0_handOn_54 : decode cX0_handOn 54 = .ok (.aload_n 0, 1) := by decide +kernel
theorem dX0_handOn_55 : decode cX0_handOn 55 = .ok (.getfield 9, 3) := by decide +kernel
theorem dX0_handOn_58 : decode cX0_handOn 58 = .ok (.iload_n 1, 1) := by decide +kernel
theorem dX0_handOn_59 : decode cX0_handOn 59 = .ok (.laload, 1) := by decide +kernel
theorem dX0_handOn_60 : decode cX0_handOn 60 = .ok (.aload_n 0, 1) := by decide +kernel
theorem dX0_handOn_61 : decode cX0_handOn 61 = .ok (.getfield 30, 3) := by decide +kernel
theorem dX0_handOn_64 : decode cX0_handOn 64 = .ok (.getfield 79, 3) := by decide +kernel
theorem dX0_handOn_67 : decode cX0_handOn 67 = .ok (.iload_n 2, 1) := by decide +kernel
theorem dX0_handOn_68 : decode cX0_handOn 68 = .ok (.iaload, 1) := by decide +kernel
theorem dX0_handOn_69 : decode cX0_handOn 69 = .ok (.i2l, 1) := by decide +kernel
theorem dX0_handOn_70 : decode cX0_handOn 70 = .ok (.lmul, 1) := by decide +kernel
theorem dX0_handOn_71 : decode cX0_handOn 71 = .ok (.aload_n 0, 1) := by decide +kernel
theorem dX0_handOn_72 : decode cX0_handOn 72 = .ok (.getfield 30, 3) := by decide +kernel
theorem dX0_handOn_75 : decode cX0_handOn 75 = .ok (.getfield 69, 3) := by decide +kernel
theorem dX0_handOn_78 : decode cX0_handOn 78 = .ok (.i2l, 1) := by decide +kernel
theorem dX0_handOn_79 : decode cX0_handOn 79 = .ok (.ldiv, 1) := by decide +kernel
theorem dX0_handOn_80 : decode cX0_handOn 80 = .ok (.ladd, 1) := by decide +kernel
theorem dX0_handOn_81 : decode cX0_handOn 81 = .ok (.lastore, 1) := by decide +kernel
theorem dX0_handOn_82 : decode cX0_handOn 82 = .ok (.iinc 2 1, 3) := by decide +kernel
theorem dX0_handOn_85 : decode cX0_handOn 85 = .ok (.goto (-57), 3) := by decide +kernel
theorem dX0_handOn_88 : decode cX0_handOn 88 = .ok (.return_, 1) := by decide +kernel
theorem dX0_likeliest_0 : decode cX0_likeliest 0 = .ok (.iconst 0, 1) := by decide +kernel
theorem dX0_likeliest_1 : decode cX0_likeliest 1 = .ok (.istore_n 1, 1) := by decide +kernel
theorem dX0_likeliest_2 : decode cX0_likeliest 2 = .ok (.iconst 1, 1) := by decide +kernel
theorem dX0_likeliest_3 : decode cX0_likeliest 3 = .ok (.istore_n 2, 1) := by decide +kernel
theorem dX0_likeliest_4 : decode cX0_likeliest 4 = .ok (.iload_n 2, 1) := by decide +kernel
theorem dX0_likeliest_5 : decode cX0_likeliest 5 = .ok (.sipush 9331, 3) := by decide +kernel
theorem dX0_likeliest_8 : decode cX0_likeliest 8 = .ok (.if_icmp .ge 27, 3) := by decide +kernel
theorem dX0_likeliest_11 : decode cX0_likeliest 11 = .ok (.aload_n 0, 1) := by decide +kernel
theorem dX0_likeliest_12 : decode cX0_likeliest 12 = .ok (.getfield 9, 3) := by decide +kernel
theorem dX0_likeliest_15 : decode cX0_likeliest 15 = .ok (.iload_n 2, 1) := by decide +kernel
theorem dX0_likeliest_16 : decode cX0_likeliest 16 = .ok (.laload, 1) := by decide +kernel
theorem dX0_likeliest_17 : decode cX0_likeliest 17 = .ok (.aload_n 0, 1) := by decide +kernel
theorem dX0_likeliest_18 : decode cX0_likeliest 18 = .ok (.getfield 9, 3) := by decide +kernel
theorem dX0_likeliest_21 : decode cX0_likeliest 21 = .ok (.iload_n 1, 1) := by decide +kernel
theorem dX0_likeliest_22 : decode cX0_likeliest 22 = .ok (.laload, 1) := by decide +kernel
theorem dX0_likeliest_23 : decode cX0_likeliest 23 = .ok (.lcmp, 1) := by decide +kernel
theorem dX0_likeliest_24 : decode cX0_likeliest 24 = .ok (.ifCond .le 5, 3) := by decide +kernel
theorem dX0_likeliest_27 : decode cX0_likeliest 27 = .ok (.iload_n 2, 1) := by decide +kernel
theorem dX0_likeliest_28 : decode cX0_likeliest 28 = .ok (.istore_n 1, 1) := by decide +kernel
theorem dX0_likeliest_29 : decode cX0_likeliest 29 = .ok (.iinc 2 1, 3) := by decide +kernel
theorem dX0_likeliest_32 : decode cX0_likeliest 32 = .ok (.goto (-28), 3) := by decide +kernel
theorem dX0_likeliest_35 : decode cX0_likeliest 35 = .ok (.iload_n 1, 1) := by decide +kernel
theorem dX0_likeliest_36 : decode cX0_likeliest 36 = .ok (.ireturn, 1) := by decide +kernel
theorem dX1_init_0 : decode cX1_init 0 = .ok (.aload_n 0, 1) := by decide +kernel
theorem dX1_init_1 : decode cX1_init 1 = .ok (.invokespecial 3, 3) := by decide +kernel
theorem dX1_init_4 : decode cX1_init 4 = .ok (.aload_n 0, 1) := by decide +kernel
theorem dX1_init_5 : decode cX1_init 5 = .ok (.new 9, 3) := by decide +kernel
theorem dX1_init_8 : decode cX1_init 8 = .ok (.dup, 1) := by decide +kernel
theorem dX1_init_9 : decode cX1_init 9 = .ok (.invokespecial 11, 3) := by decide +kernel
theorem dX1_init_12 : decode cX1_init 12 = .ok (.putfield 12, 3) := by decide +kernel
theorem dX1_init_15 : decode cX1_init 15 = .ok (.aload_n 0, 1) := by decide +kernel
theorem dX1_init_16 : decode cX1_init 16 = .ok (.bipush 45, 2) := by decide +kernel
theorem dX1_init_18 : decode cX1_init 18 = .ok (.newarray .int, 2) := by decide +kernel
theorem dX1_init_20 : decode cX1_init 20 = .ok (.putfield 18, 3) := by decide +kernel
theorem dX1_init_23 : decode cX1_init 23 = .ok (.aload_n 0, 1) := by decide +kernel
theorem dX1_init_24 : decode cX1_init 24 = .ok (.bipush 45, 2) := by decide +kernel
theorem dX1_init_26 : decode cX1_init 26 = .ok (.newarray .int, 2) := by decide +kernel
theorem dX1_init_28 : decode cX1_init 28 = .ok (.putfield 22, 3) := by decide +kernel
theorem dX1_init_31 : decode cX1_init 31 = .ok (.aload_n 0, 1) := by decide +kernel
theorem dX1_init_32 : decode cX1_init 32 = .ok (.aload_n 1, 1) := by decide +kernel
theorem dX1_init_33 : decode cX1_init 33 = .ok (.putfield 25, 3) := by decide +kernel
theorem dX1_init_36 : decode cX1_init 36 = .ok (.aload_n 0, 1) := by decide +kernel
theorem dX1_init_37 : decode cX1_init 37 = .ok (.aload_n 2, 1) := by decide +kernel
theorem dX1_init_38 : decode cX1_init 38 = .ok (.putfield 29, 3) := by decide +kernel
theorem dX1_init_41 : decode cX1_init 41 = .ok (.return_, 1) := by decide +kernel
theorem dX1_take_0 : decode cX1_take 0 = .ok (.aload_n 0, 1) := by decide +kernel
theorem dX1_take_1 : decode cX1_take 1 = .ok (.getfield 12, 3) := by decide +kernel
theorem dX1_take_4 : decode cX1_take 4 = .ok (.iload_n 1, 1) := by decide +kernel
theorem dX1_take_5 : decode cX1_take 5 = .ok (.invokevirtual 33, 3) := by decide +kernel
theorem dX1_take_8 : decode cX1_take 8 = .ok (.return_, 1) := by decide +kernel
theorem dX1_makes_0 : decode cX1_makes 0 = .ok (.iload_n 1, 1) := by decide +kernel
theorem dX1_makes_1 : decode cX1_makes 1 = .ok (.tableswitch 84 0 3 #[31, 44, 58, 71], 31) := by decide +kernel
theorem dX1_makes_32 : decode cX1_makes 32 = .ok (.aload_n 0, 1) := by decide +kernel
theorem dX1_makes_33 : decode cX1_makes 33 = .ok (.getfield 12, 3) := by decide +kernel
theorem dX1_makes_36 : decode cX1_makes 36 = .ok (.iload_n 2, 1) := by decide +kernel
theorem dX1_makes_37 : decode cX1_makes 37 = .ok (.invokevirtual 37, 3) := by decide +kernel
theorem dX1_makes_40 : decode cX1_makes 40 = .ok (.istore 4, 2) := by decide +kernel
theorem dX1_makes_42 : decode cX1_makes 42 = .ok (.goto 85, 3) := by decide +kernel
theorem dX1_makes_45 : decode cX1_makes 45 = .ok (.aload_n 0, 1) := by decide +kernel
theorem dX1_makes_46 : decode cX1_makes 46 = .ok (.getfield 12, 3) := by decide +kernel
theorem dX1_makes_49 : decode cX1_makes 49 = .ok (.iload_n 2, 1) := by decide +kernel
theorem dX1_makes_50 : decode cX1_makes 50 = .ok (.iload_n 3, 1) := by decide +kernel
theorem dX1_makes_51 : decode cX1_makes 51 = .ok (.invokevirtual 41, 3) := by decide +kernel
theorem dX1_makes_54 : decode cX1_makes 54 = .ok (.istore 4, 2) := by decide +kernel
theorem dX1_makes_56 : decode cX1_makes 56 = .ok (.goto 71, 3) := by decide +kernel
theorem dX1_makes_59 : decode cX1_makes 59 = .ok (.aload_n 0, 1) := by decide +kernel
theorem dX1_makes_60 : decode cX1_makes 60 = .ok (.getfield 12, 3) := by decide +kernel
theorem dX1_makes_63 : decode cX1_makes 63 = .ok (.iload_n 2, 1) := by decide +kernel
theorem dX1_makes_64 : decode cX1_makes 64 = .ok (.invokevirtual 45, 3) := by decide +kernel
theorem dX1_makes_67 : decode cX1_makes 67 = .ok (.istore 4, 2) := by decide +kernel
theorem dX1_makes_69 : decode cX1_makes 69 = .ok (.goto 58, 3) := by decide +kernel
theorem dX1_makes_72 : decode cX1_makes 72 = .ok (.aload_n 0, 1) := by decide +kernel
theorem dX1_makes_73 : decode cX1_makes 73 = .ok (.getfield 12, 3) := by decide +kernel
theorem dX1_makes_76 : decode cX1_makes 76 = .ok (.iload_n 2, 1) := by decide +kernel
theorem dX1_makes_77 : decode cX1_makes 77 = .ok (.invokevirtual 48, 3) := by decide +kernel
theorem dX1_makes_80 : decode cX1_makes 80 = .ok (.istore 4, 2) := by decide +kernel
theorem dX1_makes_82 : decode cX1_makes 82 = .ok (.goto 45, 3) := by decide +kernel
theorem dX1_makes_85 : decode cX1_makes 85 = .ok (.aload_n 0, 1) := by decide +kernel
theorem dX1_makes_86 : decode cX1_makes 86 = .ok (.getfield 12, 3) := by decide +kernel
theorem dX1_makes_89 : decode cX1_makes 89 = .ok (.iload_n 2, 1) := by decide +kernel
theorem dX1_makes_90 : decode cX1_makes 90 = .ok (.invokevirtual 51, 3) := by decide +kernel
theorem dX1_makes_93 : decode cX1_makes 93 = .ok (.ifCond .eq 31, 3) := by decide +kernel
theorem dX1_makes_96 : decode cX1_makes 96 = .ok (.aload_n 0, 1) := by decide +kernel
theorem dX1_makes_97 : decode cX1_makes 97 = .ok (.getfield 12, 3) := by decide +kernel
theorem dX1_makes_100 : decode cX1_makes 100 = .ok (.iload_n 2, 1) := by decide +kernel
theorem dX1_makes_101 : decode cX1_makes 101 = .ok (.aload_n 0, 1) := by decide +kernel
theorem dX1_makes_102 : decode cX1_makes 102 = .ok (.getfield 25, 3) := by decide +kernel
theorem dX1_makes_105 : decode cX1_makes 105 = .ok (.getfield 55, 3) := by decide +kernel
theorem dX1_makes_108 : decode cX1_makes 108 = .ok (.aload_n 0, 1) := by decide +kernel
theorem dX1_makes_109 : decode cX1_makes 109 = .ok (.getfield 12, 3) := by decide +kernel
theorem dX1_makes_112 : decode cX1_makes 112 = .ok (.getfield 60, 3) := by decide +kernel
theorem dX1_makes_115 : decode cX1_makes 115 = .ok (.iload_n 2, 1) := by decide +kernel
theorem dX1_makes_116 : decode cX1_makes 116 = .ok (.iaload, 1) := by decide +kernel
theorem dX1_makes_117 : decode cX1_makes 117 = .ok (.iaload, 1) := by decide +kernel
theorem dX1_makes_118 : decode cX1_makes 118 = .ok (.invokevirtual 63, 3) := by decide +kernel
theorem dX1_makes_121 : decode cX1_makes 121 = .ok (.goto 4, 3) := by decide +kernel
theorem dX1_makes_124 : decode cX1_makes 124 = .ok (.iconst (-1), 1) := by decide +kernel
theorem dX1_makes_125 : decode cX1_makes 125 = .ok (.istore 4, 2) := by decide +kernel
theorem dX1_makes_127 : decode cX1_makes 127 = .ok (.iload 4, 2) := by decide +kernel
theorem dX1_makes_129 : decode cX1_makes 129 = .ok (.iconst (-1), 1) := by decide +kernel
theorem dX1_makes_130 : decode cX1_makes 130 = .ok (.if_icmp .ne 5, 3) := by decide +kernel
theorem dX1_makes_133 : decode cX1_makes 133 = .ok (.iconst (-1), 1) := by decide +kernel
theorem dX1_makes_134 : decode cX1_makes 134 = .ok (.ireturn, 1) := by decide +kernel
theorem dX1_makes_135 : decode cX1_makes 135 = .ok (.iload_n 1, 1) := by decide +kernel
theorem dX1_makes_136 : decode cX1_makes 136 = .ok (.iconst 1, 1) := by decide +kernel
theorem dX1_makes_137 : decode cX1_makes 137 = .ok (.if_icmp .ne 7, 3) := by decide +kernel
theorem dX1_makes_140 : decode cX1_makes 140 = .ok (.iload_n 3, 1) := by decide +kernel
theorem dX1_makes_141 : decode cX1_makes 141 = .ok (.goto 12, 3) := by decide +kernel
theorem dX1_makes_144 : decode cX1_makes 144 = .ok (.aload_n 0, 1) := by decide +kernel
theorem dX1_makes_145 : decode cX1_makes 145 = .ok (.getfield 12, 3) := by decide +kernel
theorem dX1_makes_148 : decode cX1_makes 148 = .ok (.getfield 60, 3) := by decide +kernel
theorem dX1_makes_151 : decode cX1_makes 151 = .ok (.iload_n 2, 1) := by decide +kernel
theorem dX1_makes_152 : decode cX1_makes 152 = .ok (.iaload, 1) := by decide +kernel
theorem dX1_makes_153 : decode cX1_makes 153 = .ok (.istore 5, 2) := by decide +kernel
theorem dX1_makes_155 : decode cX1_makes 155 = .ok (.aload_n 0, 1) := by decide +kernel
theorem dX1_makes_156 : decode cX1_makes 156 = .ok (.aload_n 0, 1) := by decide +kernel
theorem dX1_makes_157 : decode cX1_makes 157 = .ok (.getfield 29, 3) := by decide +kernel
theorem dX1_makes_160 : decode cX1_makes 160 = .ok (.iload_n 1, 1) := by decide +kernel
theorem dX1_makes_161 : decode cX1_makes 161 = .ok (.iload 5, 2) := by decide +kernel
theorem dX1_makes_163 : decode cX1_makes 163 = .ok (.iload_n 2, 1) := by decide +kernel
theorem dX1_makes_164 : decode cX1_makes 164 = .ok (.aload_n 0, 1) := by decide +kernel
theorem dX1_makes_165 : decode cX1_makes 165 = .ok (.getfield 12, 3) := by decide +kernel
theorem dX1_makes_168 : decode cX1_makes 168 = .ok (.getfield 66, 3) := by decide +kernel
theorem dX1_makes_171 : decode cX1_makes 171 = .ok (.aload_n 0, 1) := by decide +kernel
theorem dX1_makes_172 : decode cX1_makes 172 = .ok (.getfield 12, 3) := by decide +kernel
theorem dX1_makes_175 : decode cX1_makes 175 = .ok (.getfield 70, 3) := by decide +kernel
theorem dX1_makes_178 : decode cX1_makes 178 = .ok (.iload 5, 2) := by decide +kernel
theorem dX1_makes_180 : decode cX1_makes 180 = .ok (.iaload, 1) := by decide +kernel
theorem dX1_makes_181 : decode cX1_makes 181 = .ok (.invokevirtual 73, 3) := by decide +kernel
theorem dX1_makes_184 : decode cX1_makes 184 = .ok (.putfield 79, 3) := by decide +kernel
theorem dX1_makes_187 : decode cX1_makes 187 = .ok (.aload_n 0, 1) := by decide +kernel
theorem dX1_makes_188 : decode cX1_makes 188 = .ok (.getfield 79, 3) := by decide +kernel
theorem dX1_makes_191 : decode cX1_makes 191 = .ok (.iconst (-1), 1) := by decide +kernel
theorem dX1_makes_192 : decode cX1_makes 192 = .ok (.if_icmp .ne 7, 3) := by decide +kernel
theorem dX1_makes_195 : decode cX1_makes 195 = .ok (.iconst (-1), 1) := by decide +kernel
theorem dX1_makes_196 : decode cX1_makes 196 = .ok (.goto 5, 3) := by decide +kernel
theorem dX1_makes_199 : decode cX1_makes 199 = .ok (.iload 4, 2) := by decide +kernel
theorem dX1_makes_201 : decode cX1_makes 201 = .ok (.ireturn, 1) := by decide +kernel
theorem dX1_listAll_0 : decode cX1_listAll 0 = .ok (.aload_n 0, 1) := by decide +kernel
theorem dX1_listAll_1 : decode cX1_listAll 1 = .ok (.getfield 12, 3) := by decide +kernel
theorem dX1_listAll_4 : decode cX1_listAll 4 = .ok (.iload_n 1, 1) := by decide +kernel
theorem dX1_listAll_5 : decode cX1_listAll 5 = .ok (.invokevirtual 33, 3) := by decide +kernel
theorem dX1_listAll_8 : decode cX1_listAll 8 = .ok (.aload_n 0, 1) := by decide +kernel
theorem dX1_listAll_9 : decode cX1_listAll 9 = .ok (.iconst 0, 1) := by decide +kernel
theorem dX1_listAll_10 : decode cX1_listAll 10 = .ok (.putfield 82, 3) := by decide +kernel
theorem dX1_listAll_13 : decode cX1_listAll 13 = .ok (.aload_n 0, 1) := by decide +kernel
theorem dX1_listAll_14 : decode cX1_listAll 14 = .ok (.iconst 0, 1) := by decide +kernel
theorem dX1_listAll_15 : decode cX1_listAll 15 = .ok (.putfield 85, 3) := by decide +kernel
theorem dX1_listAll_18 : decode cX1_listAll 18 = .ok (.iconst 0, 1) := by decide +kernel
theorem dX1_listAll_19 : decode cX1_listAll 19 = .ok (.istore_n 2, 1) := by decide +kernel
theorem dX1_listAll_20 : decode cX1_listAll 20 = .ok (.iload_n 2, 1) := by decide +kernel
theorem dX1_listAll_21 : decode cX1_listAll 21 = .ok (.iconst 4, 1) := by decide +kernel
theorem dX1_listAll_22 : decode cX1_listAll 22 = .ok (.if_icmp .gt 123, 3) := by decide +kernel
theorem dX1_listAll_25 : decode cX1_listAll 25 = .ok (.iload_n 2, 1) := by decide +kernel
theorem dX1_listAll_26 : decode cX1_listAll 26 = .ok (.iconst 1, 1) := by decide +kernel
theorem dX1_listAll_27 : decode cX1_listAll 27 = .ok (.if_icmp .ne 8, 3) := by decide +kernel
theorem dX1_listAll_30 : decode cX1_listAll 30 = .ok (.bipush 6, 2) := by decide +kernel
theorem dX1_listAll_32 : decode cX1_listAll 32 = .ok (.goto 4, 3) := by decide +kernel
theorem dX1_listAll_35 : decode cX1_listAll 35 = .ok (.iconst 1, 1) := by decide +kernel
theorem dX1_listAll_36 : decode cX1_listAll 36 = .ok (.istore_n 3, 1) := by decide +kernel
theorem dX1_listAll_37 : decode cX1_listAll 37 = .ok (.iconst 0, 1) := by decide +kernel
theorem dX1_listAll_38 : decode cX1_listAll 38 = .ok (.istore 4, 2) := by decide +kernel
theorem dX1_listAll_40 : decode cX1_listAll 40 = .ok (.iload 4, 2) := by decide +kernel
theorem dX1_listAll_42 : decode cX1_listAll 42 = .ok (.aload_n 0, 1) := by decide +kernel
theorem dX1_listAll_43 : decode cX1_listAll 43 = .ok (.getfield 12, 3) := by decide +kernel
theorem dX1_listAll_46 : decode cX1_listAll 46 = .ok (.getfield 66, 3) := by decide +kernel
theorem dX1_listAll_49 : decode cX1_listAll 49 = .ok (.iconst 1, 1) := by decide +kernel
theorem dX1_listAll_50 : decode cX1_listAll 50 = .ok (.iadd, 1) := by decide +kernel
theorem dX1_listAll_51 : decode cX1_listAll 51 = .ok (.iload_n 3, 1) := by decide +kernel
theorem dX1_listAll_52 : decode cX1_listAll 52 = .ok (.imul, 1) := by decide +kernel
theorem dX1_listAll_53 : decode cX1_listAll 53 = .ok (.if_icmp .ge 86, 3) := by decide +kernel
theorem dX1_listAll_56 : decode cX1_listAll 56 = .ok (.aload_n 0, 1) := by decide +kernel
theorem dX1_listAll_57 : decode cX1_listAll 57 = .ok (.iload_n 2, 1) := by decide +kernel
theorem dX1_listAll_58 : decode cX1_listAll 58 = .ok (.iload 4, 2) := by decide +kernel
theorem dX1_listAll_60 : decode cX1_listAll 60 = .ok (.iload_n 3, 1) := by decide +kernel
theorem dX1_listAll_61 : decode cX1_listAll 61 = .ok (.idiv, 1) := by decide +kernel
theorem dX1_listAll_62 : decode cX1_listAll 62 = .ok (.iload 4, 2) := by decide +kernel
theorem dX1_listAll_64 : decode cX1_listAll 64 = .ok (.iload_n 3, 1) := by decide +kernel
theorem dX1_listAll_65 : decode cX1_listAll 65 = .ok (.irem, 1) := by decide +kernel
theorem dX1_listAll_66 : decode cX1_listAll 66 = .ok (.invokevirtual 88, 3) := by decide +kernel
theorem dX1_listAll_69 : decode cX1_listAll 69 = .ok (.istore 5, 2) := by decide +kernel
theorem dX1_listAll_71 : decode cX1_listAll 71 = .ok (.iload 5, 2) := by decide +kernel
theorem dX1_listAll_73 : decode cX1_listAll 73 = .ok (.iconst (-1), 1) := by decide +kernel
theorem dX1_listAll_74 : decode cX1_listAll 74 = .ok (.if_icmp .eq 59, 3) := by decide +kernel
theorem dX1_listAll_77 : decode cX1_listAll 77 = .ok (.aload_n 0, 1) := by decide +kernel
theorem dX1_listAll_78 : decode cX1_listAll 78 = .ok (.getfield 82, 3) := by decide +kernel
theorem dX1_listAll_81 : decode cX1_listAll 81 = .ok (.bipush 45, 2) := by decide +kernel
theorem dX1_listAll_83 : decode cX1_listAll 83 = .ok (.if_icmp .ge 50, 3) := by decide +kernel
theorem dX1_listAll_86 : decode cX1_listAll 86 = .ok (.aload_n 0, 1) := by decide +kernel
theorem dX1_listAll_87 : decode cX1_listAll 87 = .ok (.getfield 18, 3) := by decide +kernel
theorem dX1_listAll_90 : decode cX1_listAll 90 = .ok (.aload_n 0, 1) := by decide +kernel
theorem dX1_listAll_91 : decode cX1_listAll 91 = .ok (.getfield 82, 3) := by decide +kernel
theorem dX1_listAll_94 : decode cX1_listAll 94 = .ok (.iload 5, 2) := by decide +kernel
theorem dX1_listAll_96 : decode cX1_listAll 96 = .ok (.iastore, 1) := by decide +kernel
theorem dX1_listAll_97 : decode cX1_listAll 97 = .ok (.aload_n 0, 1) := by decide +kernel
theorem dX1_listAll_98 : decode cX1_listAll 98 = .ok (.getfield 22, 3) := by decide +kernel
theorem dX1_listAll_101 : decode cX1_listAll 101 = .ok (.aload_n 0, 1) := by decide +kernel
theorem dX1_listAll_102 : decode cX1_listAll 102 = .ok (.getfield 82, 3) := by decide +kernel
theorem dX1_listAll_105 : decode cX1_listAll 105 = .ok (.aload_n 0, 1) := by decide +kernel
theorem dX1_listAll_106 : decode cX1_listAll 106 = .ok (.getfield 79, 3) := by decide +kernel
theorem dX1_listAll_109 : decode cX1_listAll 109 = .ok (.iastore, 1) := by decide +kernel
theorem dX1_listAll_110 : decode cX1_listAll 110 = .ok (.aload_n 0, 1) := by decide +kernel
theorem dX1_listAll_111 : decode cX1_listAll 111 = .ok (.dup, 1) := by decide +kernel
theorem dX1_listAll_112 : decode cX1_listAll 112 = .ok (.getfield 85, 3) := by decide +kernel
theorem dX1_listAll_115 : decode cX1_listAll 115 = .ok (.aload_n 0, 1) := by decide +kernel
theorem dX1_listAll_116 : decode cX1_listAll 116 = .ok (.getfield 79, 3) := by decide +kernel
theorem dX1_listAll_119 : decode cX1_listAll 119 = .ok (.iadd, 1) := by decide +kernel
theorem dX1_listAll_120 : decode cX1_listAll 120 = .ok (.putfield 85, 3) := by decide +kernel
theorem dX1_listAll_123 : decode cX1_listAll 123 = .ok (.aload_n 0, 1) := by decide +kernel
theorem dX1_listAll_124 : decode cX1_listAll 124 = .ok (.dup, 1) := by decide +kernel
theorem dX1_listAll_125 : decode cX1_listAll 125 = .ok (.getfield 82, 3) := by decide +kernel
theorem dX1_listAll_128 : decode cX1_listAll 128 = .ok (.iconst 1, 1) := by decide +kernel
theorem dX1_listAll_129 : decode cX1_listAll 129 = .ok (.iadd, 1) := by decide +kernel
theorem dX1_listAll_130 : decode cX1_listAll 130 = .ok (.putfield 82, 3) := by decide +kernel
theorem dX1_listAll_133 : decode cX1_listAll 133 = .ok (.iinc 4 1, 3) := by decide +kernel
theorem dX1_listAll_136 : decode cX1_listAll 136 = .ok (.goto (-96), 3) := by decide +kernel
theorem dX1_listAll_139 : decode cX1_listAll 139 = .ok (.iinc 2 1, 3) := by decide +kernel
theorem dX1_listAll_142 : decode cX1_listAll 142 = .ok (.goto (-122), 3) := by decide +kernel
theorem dX1_listAll_145 : decode cX1_listAll 145 = .ok (.return_, 1) := by decide +kernel
theorem dX1_hasMade_0 : decode cX1_hasMade 0 = .ok (.iconst 0, 1) := by decide +kernel
theorem dX1_hasMade_1 : decode cX1_hasMade 1 = .ok (.istore_n 2, 1) := by decide +kernel
theorem dX1_hasMade_2 : decode cX1_hasMade 2 = .ok (.iload_n 2, 1) := by decide +kernel
theorem dX1_hasMade_3 : decode cX1_hasMade 3 = .ok (.aload_n 0, 1) := by decide +kernel
theorem dX1_hasMade_4 : decode cX1_hasMade 4 = .ok (.getfield 82, 3) := by decide +kernel
theorem dX1_hasMade_7 : decode cX1_hasMade 7 = .ok (.if_icmp .ge 21, 3) := by decide +kernel
theorem dX1_hasMade_10 : decode cX1_hasMade 10 = .ok (.aload_n 0, 1) := by decide +kernel
theorem dX1_hasMade_11 : decode cX1_hasMade 11 = .ok (.getfield 18, 3) := by decide +kernel
theorem dX1_hasMade_14 : decode cX1_hasMade 14 = .ok (.iload_n 2, 1) := by decide +kernel
theorem dX1_hasMade_15 : decode cX1_hasMade 15 = .ok (.iaload, 1) := by decide +kernel
theorem dX1_hasMade_16 : decode cX1_hasMade 16 = .ok (.iload_n 1, 1) := by decide +kernel
theorem dX1_hasMade_17 : decode cX1_hasMade 17 = .ok (.if_icmp .ne 5, 3) := by decide +kernel
theorem dX1_hasMade_20 : decode cX1_hasMade 20 = .ok (.iconst 1, 1) := by decide +kernel
theorem dX1_hasMade_21 : decode cX1_hasMade 21 = .ok (.ireturn, 1) := by decide +kernel
theorem dX1_hasMade_22 : decode cX1_hasMade 22 = .ok (.iinc 2 1, 3) := by decide +kernel
theorem dX1_hasMade_25 : decode cX1_hasMade 25 = .ok (.goto (-23), 3) := by decide +kernel
theorem dX1_hasMade_28 : decode cX1_hasMade 28 = .ok (.iconst 0, 1) := by decide +kernel
theorem dX1_hasMade_29 : decode cX1_hasMade 29 = .ok (.ireturn, 1) := by decide +kernel
theorem dX1_lowestMade_0 : decode cX1_lowestMade 0 = .ok (.iconst (-1), 1) := by decide +kernel
theorem dX1_lowestMade_1 : decode cX1_lowestMade 1 = .ok (.istore 4, 2) := by decide +kernel
theorem dX1_lowestMade_3 : decode cX1_lowestMade 3 = .ok (.iconst 0, 1) := by decide +kernel
theorem dX1_lowestMade_4 : decode cX1_lowestMade 4 = .ok (.istore 5, 2) := by decide +kernel
theorem dX1_lowestMade_6 : decode cX1_lowestMade 6 = .ok (.iload 5, 2) := by decide +kernel
theorem dX1_lowestMade_8 : decode cX1_lowestMade 8 = .ok (.aload_n 0, 1) := by decide +kernel
theorem dX1_lowestMade_9 : decode cX1_lowestMade 9 = .ok (.getfield 82, 3) := by decide +kernel
theorem dX1_lowestMade_12 : decode cX1_lowestMade 12 = .ok (.if_icmp .ge 52, 3) := by decide +kernel
theorem dX1_lowestMade_15 : decode cX1_lowestMade 15 = .ok (.aload_n 0, 1) := by decide +kernel
theorem dX1_lowestMade_16 : decode cX1_lowestMade 16 = .ok (.getfield 18, 3) := by decide +kernel
theorem dX1_lowestMade_19 : decode cX1_lowestMade 19 = .ok (.iload 5, 2) := by decide +kernel
theorem dX1_lowestMade_21 : decode cX1_lowestMade 21 = .ok (.iaload, 1) := by decide +kernel
theorem dX1_lowestMade_22 : decode cX1_lowestMade 22 = .ok (.istore 6, 2) := by decide +kernel
theorem dX1_lowestMade_24 : decode cX1_lowestMade 24 = .ok (.iload 6, 2) := by decide +kernel
theorem dX1_lowestMade_26 : decode cX1_lowestMade 26 = .ok (.iload_n 1, 1) := by decide +kernel
theorem dX1_lowestMade_27 : decode cX1_lowestMade 27 = .ok (.if_icmp .le 31, 3) := by decide +kernel
theorem dX1_lowestMade_30 : decode cX1_lowestMade 30 = .ok (.iload 4, 2) := by decide +kernel
theorem dX1_lowestMade_32 : decode cX1_lowestMade 32 = .ok (.iconst (-1), 1) := by decide +kernel
theorem dX1_lowestMade_33 : decode cX1_lowestMade 33 = .ok (.if_icmp .eq 10, 3) := by decide +kernel
theorem dX1_lowestMade_36 : decode cX1_lowestMade 36 = .ok (.iload 6, 2) := by decide +kernel
theorem dX1_lowestMade_38 : decode cX1_lowestMade 38 = .ok (.iload 4, 2) := by decide +kernel
theorem dX1_lowestMade_40 : decode cX1_lowestMade 40 = .ok (.if_icmp .ge 18, 3) := by decide +kernel
theorem dX1_lowestMade_43 : decode cX1_lowestMade 43 = .ok (.aload_n 2, 1) := by decide +kernel
theorem dX1_lowestMade_44 : decode cX1_lowestMade 44 = .ok (.getfield 92, 3) := by decide +kernel
theorem dX1_lowestMade_47 : decode cX1_lowestMade 47 = .ok (.iload 6, 2) := by decide +kernel
theorem dX1_lowestMade_49 : decode cX1_lowestMade 49 = .ok (.saload, 1) := by decide +kernel
theorem dX1_lowestMade_50 : decode cX1_lowestMade 50 = .ok (.iload_n 3, 1) := by decide +kernel
theorem dX1_lowestMade_51 : decode cX1_lowestMade 51 = .ok (.if_icmp .ne 7, 3) := by decide +kernel
theorem dX1_lowestMade_54 : decode cX1_lowestMade 54 = .ok (.iload 6, 2) := by decide +kernel
theorem dX1_lowestMade_56 : decode cX1_lowestMade 56 = .ok (.istore 4, 2) := by decide +kernel
theorem dX1_lowestMade_58 : decode cX1_lowestMade 58 = .ok (.iinc 5 1, 3) := by decide +kernel
theorem dX1_lowestMade_61 : decode cX1_lowestMade 61 = .ok (.goto (-55), 3) := by decide +kernel
theorem dX1_lowestMade_64 : decode cX1_lowestMade 64 = .ok (.iload 4, 2) := by decide +kernel
theorem dX1_lowestMade_66 : decode cX1_lowestMade 66 = .ok (.ireturn, 1) := by decide +kernel
theorem dX1_madeBy_0 : decode cX1_madeBy 0 = .ok (.iload_n 1, 1) := by decide +kernel
theorem dX1_madeBy_1 : decode cX1_madeBy 1 = .ok (.istore_n 2, 1) := by decide +kernel
theorem dX1_madeBy_2 : decode cX1_madeBy 2 = .ok (.iconst 0, 1) := by decide +kernel
theorem dX1_madeBy_3 : decode cX1_madeBy 3 = .ok (.istore_n 3, 1) := by decide +kernel
theorem dX1_madeBy_4 : decode cX1_madeBy 4 = .ok (.iload_n 3, 1) := by decide +kernel
theorem dX1_madeBy_5 : decode cX1_madeBy 5 = .ok (.aload_n 0, 1) := by decide +kernel
theorem dX1_madeBy_6 : decode cX1_madeBy 6 = .ok (.getfield 82, 3) := by decide +kernel
theorem dX1_madeBy_9 : decode cX1_madeBy 9 = .ok (.if_icmp .ge 29, 3) := by decide +kernel
theorem dX1_madeBy_12 : decode cX1_madeBy 12 = .ok (.iload_n 2, 1) := by decide +kernel
theorem dX1_madeBy_13 : decode cX1_madeBy 13 = .ok (.aload_n 0, 1) := by decide +kernel
theorem dX1_madeBy_14 : decode cX1_madeBy 14 = .ok (.getfield 22, 3) := by decide +kernel
theorem dX1_madeBy_17 : decode cX1_madeBy 17 = .ok (.iload_n 3, 1) := by decide +kernel
theorem dX1_madeBy_18 : decode cX1_madeBy 18 = .ok (.iaload, 1) := by decide +kernel
theorem dX1_madeBy_19 : decode cX1_madeBy 19 = .ok (.isub, 1) := by decide +kernel
theorem dX1_madeBy_20 : decode cX1_madeBy 20 = .ok (.istore_n 2, 1) := by decide +kernel
theorem dX1_madeBy_21 : decode cX1_madeBy 21 = .ok (.iload_n 2, 1) := by decide +kernel
theorem dX1_madeBy_22 : decode cX1_madeBy 22 = .ok (.ifCond .ge 10, 3) := by decide +kernel
theorem dX1_madeBy_25 : decode cX1_madeBy 25 = .ok (.aload_n 0, 1) := by decide +kernel
theorem dX1_madeBy_26 : decode cX1_madeBy 26 = .ok (.getfield 18, 3) := by decide +kernel
theorem dX1_madeBy_29 : decode cX1_madeBy 29 = .ok (.iload_n 3, 1) := by decide +kernel
theorem dX1_madeBy_30 : decode cX1_madeBy 30 = .ok (.iaload, 1) := by decide +kernel
theorem dX1_madeBy_31 : decode cX1_madeBy 31 = .ok (.ireturn, 1) := by decide +kernel
theorem dX1_madeBy_32 : decode cX1_madeBy 32 = .ok (.iinc 3 1, 3) := by decide +kernel
theorem dX1_madeBy_35 : decode cX1_madeBy 35 = .ok (.goto (-31), 3) := by decide +kernel
theorem dX1_madeBy_38 : decode cX1_madeBy 38 = .ok (.iconst (-1), 1) := by decide +kernel
theorem dX1_madeBy_39 : decode cX1_madeBy 39 = .ok (.ireturn, 1) := by decide +kernel
theorem dX2_init_0 : decode cX2_init 0 = .ok (.aload_n 0, 1) := by decide +kernel
theorem dX2_init_1 : decode cX2_init 1 = .ok (.invokespecial 3, 3) := by decide +kernel
theorem dX2_init_4 : decode cX2_init 4 = .ok (.aload_n 0, 1) := by decide +kernel
theorem dX2_init_5 : decode cX2_init 5 = .ok (.sipush 9331, 3) := by decide +kernel
theorem dX2_init_8 : decode cX2_init 8 = .ok (.newarray .short, 2) := by decide +kernel
theorem dX2_init_10 : decode cX2_init 10 = .ok (.putfield 9, 3) := by decide +kernel
theorem dX2_init_13 : decode cX2_init 13 = .ok (.aload_n 0, 1) := by decide +kernel
theorem dX2_init_14 : decode cX2_init 14 = .ok (.sipush 9331, 3) := by decide +kernel
theorem dX2_init_17 : decode cX2_init 17 = .ok (.newarray .short, 2) := by decide +kernel
theorem dX2_init_19 : decode cX2_init 19 = .ok (.putfield 15, 3) := by decide +kernel
theorem dX2_init_22 : decode cX2_init 22 = .ok (.aload_n 0, 1) := by decide +kernel
theorem dX2_init_23 : decode cX2_init 23 = .ok (.aload_n 1, 1) := by decide +kernel
theorem dX2_init_24 : decode cX2_init 24 = .ok (.putfield 18, 3) := by decide +kernel
theorem dX2_init_27 : decode cX2_init 27 = .ok (.aload_n 0, 1) := by decide +kernel
theorem dX2_init_28 : decode cX2_init 28 = .ok (.aload_n 2, 1) := by decide +kernel
theorem dX2_init_29 : decode cX2_init 29 = .ok (.putfield 22, 3) := by decide +kernel
theorem dX2_init_32 : decode cX2_init 32 = .ok (.return_, 1) := by decide +kernel
theorem dX2_isOf_0 : decode cX2_isOf 0 = .ok (.aload_n 0, 1) := by decide +kernel
theorem dX2_isOf_1 : decode cX2_isOf 1 = .ok (.getfield 26, 3) := by decide +kernel
theorem dX2_isOf_4 : decode cX2_isOf 4 = .ok (.iload_n 1, 1) := by decide +kernel
theorem dX2_isOf_5 : decode cX2_isOf 5 = .ok (.if_icmp .ne 29, 3) := by decide +kernel
theorem dX2_isOf_8 : decode cX2_isOf 8 = .ok (.aload_n 0, 1) := by decide +kernel
theorem dX2_isOf_9 : decode cX2_isOf 9 = .ok (.getfield 30, 3) := by decide +kernel
theorem dX2_isOf_12 : decode cX2_isOf 12 = .ok (.iload_n 2, 1) := by decide +kernel
theorem dX2_isOf_13 : decode cX2_isOf 13 = .ok (.if_icmp .ne 21, 3) := by decide +kernel
theorem dX2_isOf_16 : decode cX2_isOf 16 = .ok (.aload_n 0, 1) := by decide +kernel
theorem dX2_isOf_17 : decode cX2_isOf 17 = .ok (.getfield 33, 3) := by decide +kernel
theorem dX2_isOf_20 : decode cX2_isOf 20 = .ok (.aload_n 0, 1) := by decide +kernel
theorem dX2_isOf_21 : decode cX2_isOf 21 = .ok (.getfield 18, 3) := by decide +kernel
theorem dX2_isOf_24 : decode cX2_isOf 24 = .ok (.getfield 36, 3) := by decide +kernel
theorem dX2_isOf_27 : decode cX2_isOf 27 = .ok (.if_icmp .ne 7, 3) := by decide +kernel
theorem dX2_isOf_30 : decode cX2_isOf 30 = .ok (.iconst 1, 1) := by decide +kernel
theorem dX2_isOf_31 : decode cX2_isOf 31 = .ok (.goto 4, 3) := by decide +kernel
theorem dX2_isOf_34 : decode cX2_isOf 34 = .ok (.iconst 0, 1) := by decide +kernel
theorem dX2_isOf_35 : decode cX2_isOf 35 = .ok (.ireturn, 1) := by decide +kernel
theorem dX2_begin_0 : decode cX2_begin 0 = .ok (.aload_n 0, 1) := by decide +kernel
theorem dX2_begin_1 : decode cX2_begin 1 = .ok (.iload_n 1, 1) := by decide +kernel
theorem dX2_begin_2 : decode cX2_begin 2 = .ok (.putfield 26, 3) := by decide +kernel
theorem dX2_begin_5 : decode cX2_begin 5 = .ok (.aload_n 0, 1) := by decide +kernel
theorem dX2_begin_6 : decode cX2_begin 6 = .ok (.iload_n 2, 1) := by decide +kernel
theorem dX2_begin_7 : decode cX2_begin 7 = .ok (.putfield 30, 3) := by decide +kernel
theorem dX2_begin_10 : decode cX2_begin 10 = .ok (.aload_n 0, 1) := by decide +kernel
theorem dX2_begin_11 : decode cX2_begin 11 = .ok (.aload_n 0, 1) := by decide +kernel
theorem dX2_begin_12 : decode cX2_begin 12 = .ok (.getfield 18, 3) := by decide +kernel
theorem dX2_begin_15 : decode cX2_begin 15 = .ok (.getfield 36, 3) := by decide +kernel
theorem dX2_begin_18 : decode cX2_begin 18 = .ok (.putfield 33, 3) := by decide +kernel
theorem dX2_begin_21 : decode cX2_begin 21 = .ok (.aload_n 0, 1) := by decide +kernel
theorem dX2_begin_22 : decode cX2_begin 22 = .ok (.iconst 0, 1) := by decide +kernel
theorem dX2_begin_23 : decode cX2_begin 23 = .ok (.putfield 39, 3) := by decide +kernel
theorem dX2_begin_26 : decode cX2_begin 26 = .ok (.iconst 0, 1) := by decide +kernel
theorem dX2_begin_27 : decode cX2_begin 27 = .ok (.istore_n 3, 1) := by decide +kernel
theorem dX2_begin_28 : decode cX2_begin 28 = .ok (.iload_n 3, 1) := by decide +kernel
theorem dX2_begin_29 : decode cX2_begin 29 = .ok (.bipush 6, 2) := by decide +kernel
theorem dX2_begin_31 : decode cX2_begin 31 = .ok (.if_icmp .ge 46, 3) := by decide +kernel
theorem dX2_begin_34 : decode cX2_begin 34 = .ok (.aload_n 0, 1) := by decide +kernel
theorem dX2_begin_35 : decode cX2_begin 35 = .ok (.dup, 1) := by decide +kernel
theorem dX2_begin_36 : decode cX2_begin 36 = .ok (.getfield 39, 3) := by decide +kernel
theorem dX2_begin_39 : decode cX2_begin 39 = .ok (.aload_n 0, 1) := by decide +kernel
theorem dX2_begin_40 : decode cX2_begin 40 = .ok (.getfield 18, 3) := by decide +kernel
theorem dX2_begin_43 : decode cX2_begin 43 = .ok (.getfield 42, 3) := by decide +kernel
theorem dX2_begin_46 : decode cX2_begin 46 = .ok (.iload_n 3, 1) := by decide +kernel
theorem dX2_begin_47 : decode cX2_begin 47 = .ok (.iaload, 1) := by decide +kernel
theorem dX2_begin_48 : decode cX2_begin 48 = .ok (.iconst (-1), 1) := by decide +kernel
theorem dX2_begin_49 : decode cX2_begin 49 = .ok (.if_icmp .ne 7, 3) := by decide +kernel
theorem dX2_begin_52 : decode cX2_begin 52 = .ok (.iconst 0, 1) := by decide +kernel
theorem dX2_begin_53 : decode cX2_begin 53 = .ok (.goto 14, 3) := by decide +kernel
theorem dX2_begin_56 : decode cX2_begin 56 = .ok (.iconst 1, 1) := by decide +kernel
theorem dX2_begin_57 : decode cX2_begin 57 = .ok (.aload_n 0, 1) := by decide +kernel
theorem dX2_begin_58 : decode cX2_begin 58 = .ok (.getfield 18, 3) := by decide +kernel
theorem dX2_begin_61 : decode cX2_begin 61 = .ok (.getfield 42, 3) := by decide +kernel
theorem dX2_begin_64 : decode cX2_begin 64 = .ok (.iload_n 3, 1) := by decide +kernel
theorem dX2_begin_65 : decode cX2_begin 65 = .ok (.iaload, 1) := by decide +kernel
theorem dX2_begin_66 : decode cX2_begin 66 = .ok (.ishl, 1) := by decide +kernel
theorem dX2_begin_67 : decode cX2_begin 67 = .ok (.ior, 1) := by decide +kernel
theorem dX2_begin_68 : decode cX2_begin 68 = .ok (.putfield 39, 3) := by decide +kernel
theorem dX2_begin_71 : decode cX2_begin 71 = .ok (.iinc 3 1, 3) := by decide +kernel
theorem dX2_begin_74 : decode cX2_begin 74 = .ok (.goto (-46), 3) := by decide +kernel
theorem dX2_begin_77 : decode cX2_begin 77 = .ok (.aload_n 0, 1) := by decide +kernel
theorem dX2_begin_78 : decode cX2_begin 78 = .ok (.getfield 9, 3) := by decide +kernel
theorem dX2_begin_81 : decode cX2_begin 81 = .ok (.iconst (-1), 1) := by decide +kernel
theorem dX2_begin_82 : decode cX2_begin 82 = .ok (.invokestatic 46, 3) := by decide +kernel
theorem dX2_begin_85 : decode cX2_begin 85 = .ok (.aload_n 0, 1) := by decide +kernel
theorem dX2_begin_86 : decode cX2_begin 86 = .ok (.iconst 0, 1) := by decide +kernel
theorem dX2_begin_87 : decode cX2_begin 87 = .ok (.putfield 52, 3) := by decide +kernel
theorem dX2_begin_90 : decode cX2_begin 90 = .ok (.aload_n 0, 1) := by decide +kernel
theorem dX2_begin_91 : decode cX2_begin 91 = .ok (.iconst 0, 1) := by decide +kernel
theorem dX2_begin_92 : decode cX2_begin 92 = .ok (.putfield 55, 3) := by decide +kernel
theorem dX2_begin_95 : decode cX2_begin 95 = .ok (.aload_n 0, 1) := by decide +kernel
theorem dX2_begin_96 : decode cX2_begin 96 = .ok (.iconst 0, 1) := by decide +kernel
theorem dX2_begin_97 : decode cX2_begin 97 = .ok (.putfield 58, 3) := by decide +kernel
theorem dX2_begin_100 : decode cX2_begin 100 = .ok (.aload_n 0, 1) := by decide +kernel
theorem dX2_begin_101 : decode cX2_begin 101 = .ok (.iload_n 1, 1) := by decide +kernel
theorem dX2_begin_102 : decode cX2_begin 102 = .ok (.invokevirtual 62, 3) := by decide +kernel
theorem dX2_begin_105 : decode cX2_begin 105 = .ok (.return_, 1) := by decide +kernel
theorem dX2_spread_0 : decode cX2_spread 0 = .ok (.iload_n 1, 1) := by decide +kernel
theorem dX2_spread_1 : decode cX2_spread 1 = .ok (.ifCond .lt 14, 3) := by decide +kernel
theorem dX2_spread_4 : decode cX2_spread 4 = .ok (.iload_n 1, 1) := by decide +kernel
theorem dX2_spread_5 : decode cX2_spread 5 = .ok (.sipush 9331, 3) := by decide +kernel
theorem dX2_spread_8 : decode cX2_spread 8 = .ok (.if_icmp .ge 7, 3) := by decide +kernel
theorem dX2_spread_11 : decode cX2_spread 11 = .ok (.iload_n 1, 1) := by decide +kernel
theorem dX2_spread_12 : decode cX2_spread 12 = .ok (.goto 4, 3) := by decide +kernel
theorem dX2_spread_15 : decode cX2_spread 15 = .ok (.iconst (-1), 1) := by decide +kernel
theorem dX2_spread_16 : decode cX2_spread 16 = .ok (.istore_n 3, 1) := by decide +kernel
theorem dX2_spread_17 : decode cX2_spread 17 = .ok (.iconst 0, 1) := by decide +kernel
theorem dX2_spread_18 : decode cX2_spread 18 = .ok (.istore 4, 2) := by decide +kernel
theorem dX2_spread_20 : decode cX2_spread 20 = .ok (.iload 4, 2) := by decide +kernel
theorem dX2_spread_22 : decode cX2_spread 22 = .ok (.iload_n 2, 1) := by decide +kernel
theorem dX2_spread_23 : decode cX2_spread 23 = .ok (.if_icmp .ge 162, 3) := by decide +kernel
theorem dX2_spread_26 : decode cX2_spread 26 = .ok (.aload_n 0, 1) := by decide +kernel
theorem dX2_spread_27 : decode cX2_spread 27 = .ok (.getfield 52, 3) := by decide +kernel
theorem dX2_spread_30 : decode cX2_spread 30 = .ok (.aload_n 0, 1) := by decide +kernel
theorem dX2_spread_31 : decode cX2_spread 31 = .ok (.getfield 55, 3) := by decide +kernel
theorem dX2_spread_34 : decode cX2_spread 34 = .ok (.if_icmp .ge 151, 3) := by decide +kernel
theorem dX2_spread_37 : decode cX2_spread 37 = .ok (.aload_n 0, 1) := by decide +kernel
theorem dX2_spread_38 : decode cX2_spread 38 = .ok (.getfield 52, 3) := by decide +kernel
theorem dX2_spread_41 : decode cX2_spread 41 = .ok (.sipush 9331, 3) := by decide +kernel
theorem dX2_spread_44 : decode cX2_spread 44 = .ok (.if_icmp .ge 141, 3) := by decide +kernel
theorem dX2_spread_47 : decode cX2_spread 47 = .ok (.iload_n 3, 1) := by decide +kernel
theorem dX2_spread_48 : decode cX2_spread 48 = .ok (.iconst (-1), 1) := by decide +kernel
theorem dX2_spread_49 : decode cX2_spread 49 = .ok (.if_icmp .eq 14, 3) := by decide +kernel
theorem dX2_spread_52 : decode cX2_spread 52 = .ok (.aload_n 0, 1) := by decide +kernel
theorem dX2_spread_53 : decode cX2_spread 53 = .ok (.getfield 9, 3) := by decide +kernel
theorem dX2_spread_56 : decode cX2_spread 56 = .ok (.iload_n 3, 1) := by decide +kernel
theorem dX2_spread_57 : decode cX2_spread 57 = .ok (.saload, 1) := by decide +kernel
theorem dX2_spread_58 : decode cX2_spread 58 = .ok (.iconst (-1), 1) := by decide +kernel
theorem dX2_spread_59 : decode cX2_spread 59 = .ok (.if_icmp .eq 4, 3) := by decide +kernel
theorem dX2_spread_62 : decode cX2_spread 62 = .ok (.return_, 1) := by decide +kernel
theorem dX2_spread_63 : decode cX2_spread 63 = .ok (.aload_n 0, 1) := by decide +kernel
theorem dX2_spread_64 : decode cX2_spread 64 = .ok (.getfield 15, 3) := by decide +kernel
theorem dX2_spread_67 : decode cX2_spread 67 = .ok (.aload_n 0, 1) := by decide +kernel
theorem dX2_spread_68 : decode cX2_spread 68 = .ok (.getfield 52, 3) := by decide +kernel
theorem dX2_spread_71 : decode cX2_spread 71 = .ok (.saload, 1) := by decide +kernel
theorem dX2_spread_72 : decode cX2_spread 72 = .ok (.istore 5, 2) := by decide +kernel
theorem dX2_spread_74 : decode cX2_spread 74 = .ok (.aload_n 0, 1) := by decide +kernel
theorem dX2_spread_75 : decode cX2_spread 75 = .ok (.dup, 1) := by decide +kernel
theorem dX2_spread_76 : decode cX2_spread 76 = .ok (.getfield 52, 3) := by decide +kernel
theorem dX2_spread_79 : decode cX2_spread 79 = .ok (.iconst 1, 1) := by decide +kernel
theorem dX2_spread_80 : decode cX2_spread 80 = .ok (.iadd, 1) := by decide +kernel
theorem dX2_spread_81 : decode cX2_spread 81 = .ok (.putfield 52, 3) := by decide +kernel
theorem dX2_spread_84 : decode cX2_spread 84 = .ok (.aload_n 0, 1) := by decide +kernel
theorem dX2_spread_85 : decode cX2_spread 85 = .ok (.aload_n 0, 1) := by decide +kernel
theorem dX2_spread_86 : decode cX2_spread 86 = .ok (.getfield 9, 3) := by decide +kernel
theorem dX2_spread_89 : decode cX2_spread 89 = .ok (.iload 5, 2) := by decide +kernel
theorem dX2_spread_91 : decode cX2_spread 91 = .ok (.saload, 1) := by decide +kernel
theorem dX2_spread_92 : decode cX2_spread 92 = .ok (.iconst 1, 1) := by decide +kernel
theorem dX2_spread_93 : decode cX2_spread 93 = .ok (.iadd, 1) := by decide +kernel
theorem dX2_spread_94 : decode cX2_spread 94 = .ok (.i2s, 1) := by decide +kernel
theorem dX2_spread_95 : decode cX2_spread 95 = .ok (.putfield 58, 3) := by decide +kernel
theorem dX2_spread_98 : decode cX2_spread 98 = .ok (.iload 5, 2) := by decide +kernel
theorem dX2_spread_100 : decode cX2_spread 100 = .ok (.invokestatic 66, 3) := by decide +kernel
theorem dX2_spread_103 : decode cX2_spread 103 = .ok (.istore 6, 2) := by decide +kernel
theorem dX2_spread_105 : decode cX2_spread 105 = .ok (.aload_n 0, 1) := by decide +kernel
theorem dX2_spread_106 : decode cX2_spread 106 = .ok (.getfield 22, 3) := by decide +kernel
theorem dX2_spread_109 : decode cX2_spread 109 = .ok (.invokevirtual 72, 3) := by decide +kernel
theorem dX2_spread_112 : decode cX2_spread 112 = .ok (.ifCond .eq 7, 3) := by decide +kernel
theorem dX2_spread_115 : decode cX2_spread 115 = .ok (.iconst 0, 1) := by decide +kernel
theorem dX2_spread_116 : decode cX2_spread 116 = .ok (.goto 8, 3) := by decide +kernel
theorem dX2_spread_119 : decode cX2_spread 119 = .ok (.iload 5, 2) := by decide +kernel
theorem dX2_spread_121 : decode cX2_spread 121 = .ok (.invokestatic 78, 3) := by decide +kernel
theorem dX2_spread_124 : decode cX2_spread 124 = .ok (.istore 7, 2) := by decide +kernel
theorem dX2_spread_126 : decode cX2_spread 126 = .ok (.aload_n 0, 1) := by decide +kernel
theorem dX2_spread_127 : decode cX2_spread 127 = .ok (.iload 5, 2) := by decide +kernel
theorem dX2_spread_129 : decode cX2_spread 129 = .ok (.iload 6, 2) := by decide +kernel
theorem dX2_spread_131 : decode cX2_spread 131 = .ok (.iload 7, 2) := by decide +kernel
theorem dX2_spread_133 : decode cX2_spread 133 = .ok (.invokevirtual 81, 3) := by decide +kernel
theorem dX2_spread_136 : decode cX2_spread 136 = .ok (.aload_n 0, 1) := by decide +kernel
theorem dX2_spread_137 : decode cX2_spread 137 = .ok (.iload 5, 2) := by decide +kernel
theorem dX2_spread_139 : decode cX2_spread 139 = .ok (.iload 6, 2) := by decide +kernel
theorem dX2_spread_141 : decode cX2_spread 141 = .ok (.iload 7, 2) := by decide +kernel
theorem dX2_spread_143 : decode cX2_spread 143 = .ok (.invokevirtual 85, 3) := by decide +kernel
theorem dX2_spread_146 : decode cX2_spread 146 = .ok (.iload 6, 2) := by decide +kernel
theorem dX2_spread_148 : decode cX2_spread 148 = .ok (.iconst 5, 1) := by decide +kernel
theorem dX2_spread_149 : decode cX2_spread 149 = .ok (.if_icmp .ge 13, 3) := by decide +kernel
theorem dX2_spread_152 : decode cX2_spread 152 = .ok (.aload_n 0, 1) := by decide +kernel
theorem dX2_spread_153 : decode cX2_spread 153 = .ok (.iload 5, 2) := by decide +kernel
theorem dX2_spread_155 : decode cX2_spread 155 = .ok (.iload 6, 2) := by decide +kernel
theorem dX2_spread_157 : decode cX2_spread 157 = .ok (.iload 7, 2) := by decide +kernel
theorem dX2_spread_159 : decode cX2_spread 159 = .ok (.invokevirtual 88, 3) := by decide +kernel
theorem dX2_spread_162 : decode cX2_spread 162 = .ok (.aload_n 0, 1) := by decide +kernel
theorem dX2_spread_163 : decode cX2_spread 163 = .ok (.getfield 39, 3) := by decide +kernel
theorem dX2_spread_166 : decode cX2_spread 166 = .ok (.ifCond .eq 13, 3) := by decide +kernel
theorem dX2_spread_169 : decode cX2_spread 169 = .ok (.aload_n 0, 1) := by decide +kernel
theorem dX2_spread_170 : decode cX2_spread 170 = .ok (.iload 5, 2) := by decide +kernel
theorem dX2_spread_172 : decode cX2_spread 172 = .ok (.iload 6, 2) := by decide +kernel
theorem dX2_spread_174 : decode cX2_spread 174 = .ok (.iload 7, 2) := by decide +kernel
theorem dX2_spread_176 : decode cX2_spread 176 = .ok (.invokevirtual 91, 3) := by decide +kernel
theorem dX2_spread_179 : decode cX2_spread 179 = .ok (.iinc 4 1, 3) := by decide +kernel
theorem dX2_spread_182 : decode cX2_spread 182 = .ok (.goto (-162), 3) := by decide +kernel
theorem dX2_spread_185 : decode cX2_spread 185 = .ok (.return_, 1) := by decide +kernel
theorem dX2_note_0 : decode cX2_note 0 = .ok (.aload_n 0, 1) := by decide +kernel
theorem dX2_note_1 : decode cX2_note 1 = .ok (.getfield 55, 3) := by decide +kernel
theorem dX2_note_4 : decode cX2_note 4 = .ok (.sipush 9331, 3) := by decide +kernel
theorem dX2_note_7 : decode cX2_note 7 = .ok (.if_icmp .ge 45, 3) := by decide +kernel
theorem dX2_note_10 : decode cX2_note 10 = .ok (.iload_n 1, 1) := by decide +kernel
theorem dX2_note_11 : decode cX2_note 11 = .ok (.ifCond .lt 41, 3) := by decide +kernel
theorem dX2_note_14 : decode cX2_note 14 = .ok (.iload_n 1, 1) := by decide +kernel
theorem dX2_note_15 : decode cX2_note 15 = .ok (.sipush 9331, 3) := by decide +kernel
theorem dX2_note_18 : decode cX2_note 18 = .ok (.if_icmp .ge 34, 3) := by decide +kernel
theorem dX2_note_21 : decode cX2_note 21 = .ok (.aload_n 0, 1) := by decide +kernel
theorem dX2_note_22 : decode cX2_note 22 = .ok (.getfield 9, 3) := by decide +kernel
theorem dX2_note_25 : decode cX2_note 25 = .ok (.iload_n 1, 1) := by decide +kernel
theorem dX2_note_26 : decode cX2_note 26 = .ok (.aload_n 0, 1) := by decide +kernel
theorem dX2_note_27 : decode cX2_note 27 = .ok (.getfield 58, 3) := by decide +kernel
theorem dX2_note_30 : decode cX2_note 30 = .ok (.sastore, 1) := by decide +kernel
theorem dX2_note_31 : decode cX2_note 31 = .ok (.aload_n 0, 1) := by decide +kernel
theorem dX2_note_32 : decode cX2_note 32 = .ok (.getfield 15, 3) := by decide +kernel
theorem dX2_note_35 : decode cX2_note 35 = .ok (.aload_n 0, 1) := by decide +kernel
theorem dX2_note_36 : decode cX2_note 36 = .ok (.getfield 55, 3) := by decide +kernel
theorem dX2_note_39 : decode cX2_note 39 = .ok (.iload_n 1, 1) := by decide +kernel
theorem dX2_note_40 : decode cX2_note 40 = .ok (.i2s, 1) := by decide +kernel
theorem dX2_note_41 : decode cX2_note 41 = .ok (.sastore, 1) := by decide +kernel
theorem dX2_note_42 : decode cX2_note 42 = .ok (.aload_n 0, 1) := by decide +kernel
theorem dX2_note_43 : decode cX2_note 43 = .ok (.dup, 1) := by decide +kernel
theorem dX2_note_44 : decode cX2_note 44 = .ok (.getfield 55, 3) := by decide +kernel
theorem dX2_note_47 : decode cX2_note 47 = .ok (.iconst 1, 1) := by decide +kernel
theorem dX2_note_48 : decode cX2_note 48 = .ok (.iadd, 1) := by decide +kernel
theorem dX2_note_49 : decode cX2_note 49 = .ok (.putfield 55, 3) := by decide +kernel
theorem dX2_note_52 : decode cX2_note 52 = .ok (.return_, 1) := by decide +kernel
theorem dX2_undoOut_0 : decode cX2_undoOut 0 = .ok (.iload_n 1, 1) := by decide +kernel
theorem dX2_undoOut_1 : decode cX2_undoOut 1 = .ok (.getstatic 94, 3) := by decide +kernel
theorem dX2_undoOut_4 : decode cX2_undoOut 4 = .ok (.iload_n 2, 1) := by decide +kernel
theorem dX2_undoOut_5 : decode cX2_undoOut 5 = .ok (.iaload, 1) := by decide +kernel
theorem dX2_undoOut_6 : decode cX2_undoOut 6 = .ok (.isub, 1) := by decide +kernel
theorem dX2_undoOut_7 : decode cX2_undoOut 7 = .ok (.istore 4, 2) := by decide +kernel
theorem dX2_undoOut_9 : decode cX2_undoOut 9 = .ok (.iconst 0, 1) := by decide +kernel
theorem dX2_undoOut_10 : decode cX2_undoOut 10 = .ok (.istore 5, 2) := by decide +kernel
theorem dX2_undoOut_12 : decode cX2_undoOut 12 = .ok (.iconst 1, 1) := by decide +kernel
theorem dX2_undoOut_13 : decode cX2_undoOut 13 = .ok (.istore 6, 2) := by decide +kernel
theorem dX2_undoOut_15 : decode cX2_undoOut 15 = .ok (.iload_n 2, 1) := by decide +kernel
theorem dX2_undoOut_16 : decode cX2_undoOut 16 = .ok (.istore 7, 2) := by decide +kernel
theorem dX2_undoOut_18 : decode cX2_undoOut 18 = .ok (.iload 7, 2) := by decide +kernel
theorem dX2_undoOut_20 : decode cX2_undoOut 20 = .ok (.ifCond .lt 157, 3) := by decide +kernel
theorem dX2_undoOut_23 : decode cX2_undoOut 23 = .ok (.getstatic 94, 3) := by decide +kernel
theorem dX2_undoOut_26 : decode cX2_undoOut 26 = .ok (.iload_n 2, 1) := by decide +kernel
theorem dX2_undoOut_27 : decode cX2_undoOut 27 = .ok (.iconst 1, 1) := by decide +kernel
theorem dX2_undoOut_28 : decode cX2_undoOut 28 = .ok (.iadd, 1) := by decide +kernel
theorem dX2_undoOut_29 : decode cX2_undoOut 29 = .ok (.iaload, 1) := by decide +kernel
theorem dX2_undoOut_30 : decode cX2_undoOut 30 = .ok (.iload 4, 2) := by decide +kernel
theorem dX2_undoOut_32 : decode cX2_undoOut 32 = .ok (.bipush 6, 2) := by decide +kernel
theorem dX2_undoOut_34 : decode cX2_undoOut 34 = .ok (.imul, 1) := by decide +kernel
theorem dX2_undoOut_35 : decode cX2_undoOut 35 = .ok (.iload 6, 2) := by decide +kernel
theorem dX2_undoOut_37 : decode cX2_undoOut 37 = .ok (.imul, 1) := by decide +kernel
theorem dX2_undoOut_38 : decode cX2_undoOut 38 = .ok (.iadd, 1) := by decide +kernel
theorem dX2_undoOut_39 : decode cX2_undoOut 39 = .ok (.iload 5, 2) := by decide +kernel
theorem dX2_undoOut_41 : decode cX2_undoOut 41 = .ok (.iadd, 1) := by decide +kernel
theorem dX2_undoOut_42 : decode cX2_undoOut 42 = .ok (.istore 8, 2) := by decide +kernel
theorem dX2_undoOut_44 : decode cX2_undoOut 44 = .ok (.iload 8, 2) := by decide +kernel
theorem dX2_undoOut_46 : decode cX2_undoOut 46 = .ok (.ifCond .lt 20, 3) := by decide +kernel
theorem dX2_undoOut_49 : decode cX2_undoOut 49 = .ok (.iload 8, 2) := by decide +kernel
theorem dX2_undoOut_51 : decode cX2_undoOut 51 = .ok (.iconst 5, 1) := by decide +kernel
theorem dX2_undoOut_52 : decode cX2_undoOut 52 = .ok (.iload 6, 2) := by decide +kernel
theorem dX2_undoOut_54 : decode cX2_undoOut 54 = .ok (.imul, 1) := by decide +kernel
theorem dX2_undoOut_55 : decode cX2_undoOut 55 = .ok (.iadd, 1) := by decide +kernel
theorem dX2_undoOut_56 : decode cX2_undoOut 56 = .ok (.sipush 9331, 3) := by decide +kernel
theorem dX2_undoOut_59 : decode cX2_undoOut 59 = .ok (.if_icmp .ge 7, 3) := by decide +kernel
theorem dX2_undoOut_62 : decode cX2_undoOut 62 = .ok (.iconst 1, 1) := by decide +kernel
theorem dX2_undoOut_63 : decode cX2_undoOut 63 = .ok (.goto 4, 3) := by decide +kernel
theorem dX2_undoOut_66 : decode cX2_undoOut 66 = .ok (.iconst 0, 1) := by decide +kernel
theorem dX2_undoOut_67 : decode cX2_undoOut 67 = .ok (.istore 9, 2) := by decide +kernel
theorem dX2_undoOut_69 : decode cX2_undoOut 69 = .ok (.iconst 0, 1) := by decide +kernel
theorem dX2_undoOut_70 : decode cX2_undoOut 70 = .ok (.istore 10, 2) := by decide +kernel
theorem dX2_undoOut_72 : decode cX2_undoOut 72 = .ok (.iload 10, 2) := by decide +kernel
theorem dX2_undoOut_74 : decode cX2_undoOut 74 = .ok (.bipush 6, 2) := by decide +kernel
theorem dX2_undoOut_76 : decode cX2_undoOut 76 = .ok (.if_icmp .ge 68, 3) := by decide +kernel
theorem dX2_undoOut_79 : decode cX2_undoOut 79 = .ok (.iload 9, 2) := by decide +kernel
theorem dX2_undoOut_81 : decode cX2_undoOut 81 = .ok (.ifCond .eq 63, 3) := by decide +kernel
theorem dX2_undoOut_84 : decode cX2_undoOut 84 = .ok (.aload_n 0, 1) := by decide +kernel
theorem dX2_undoOut_85 : decode cX2_undoOut 85 = .ok (.getfield 9, 3) := by decide +kernel
theorem dX2_undoOut_88 : decode cX2_undoOut 88 = .ok (.iload 8, 2) := by decide +kernel
theorem dX2_undoOut_90 : decode cX2_undoOut 90 = .ok (.saload, 1) := by decide +kernel
theorem dX2_undoOut_91 : decode cX2_undoOut 91 = .ok (.iconst (-1), 1) := by decide +kernel
theorem dX2_undoOut_92 : decode cX2_undoOut 92 = .ok (.if_icmp .ne 39, 3) := by decide +kernel
theorem dX2_undoOut_95 : decode cX2_undoOut 95 = .ok (.aload_n 0, 1) := by decide +kernel
theorem dX2_undoOut_96 : decode cX2_undoOut 96 = .ok (.getfield 22, 3) := by decide +kernel
theorem dX2_undoOut_99 : decode cX2_undoOut 99 = .ok (.iconst 0, 1) := by decide +kernel
theorem dX2_undoOut_100 : decode cX2_undoOut 100 = .ok (.iload 10, 2) := by decide +kernel
theorem dX2_undoOut_102 : decode cX2_undoOut 102 = .ok (.iload 7, 2) := by decide +kernel
theorem dX2_undoOut_104 : decode cX2_undoOut 104 = .ok (.iload_n 2, 1) := by decide +kernel
theorem dX2_undoOut_105 : decode cX2_undoOut 105 = .ok (.iconst 1, 1) := by decide +kernel
theorem dX2_undoOut_106 : decode cX2_undoOut 106 = .ok (.iadd, 1) := by decide +kernel
theorem dX2_undoOut_107 : decode cX2_undoOut 107 = .ok (.iload_n 3, 1) := by decide +kernel
theorem dX2_undoOut_108 : decode cX2_undoOut 108 = .ok (.iconst 3, 1) := by decide +kernel
theorem dX2_undoOut_109 : decode cX2_undoOut 109 = .ok (.iload 10, 2) := by decide +kernel
theorem dX2_undoOut_111 : decode cX2_undoOut 111 = .ok (.imul, 1) := by decide +kernel
theorem dX2_undoOut_112 : decode cX2_undoOut 112 = .ok (.ishr, 1) := by decide +kernel
theorem dX2_undoOut_113 : decode cX2_undoOut 113 = .ok (.bipush 7, 2) := by decide +kernel
theorem dX2_undoOut_115 : decode cX2_undoOut 115 = .ok (.iand, 1) := by decide +kernel
theorem dX2_undoOut_116 : decode cX2_undoOut 116 = .ok (.iconst 1, 1) := by decide +kernel
theorem dX2_undoOut_117 : decode cX2_undoOut 117 = .ok (.iadd, 1) := by decide +kernel
theorem dX2_undoOut_118 : decode cX2_undoOut 118 = .ok (.invokevirtual 97, 3) := by decide +kernel
theorem dX2_undoOut_121 : decode cX2_undoOut 121 = .ok (.iconst (-1), 1) := by decide +kernel
theorem dX2_undoOut_122 : decode cX2_undoOut 122 = .ok (.if_icmp .eq 9, 3) := by decide +kernel
theorem dX2_undoOut_125 : decode cX2_undoOut 125 = .ok (.aload_n 0, 1) := by decide +kernel
theorem dX2_undoOut_126 : decode cX2_undoOut 126 = .ok (.iload 8, 2) := by decide +kernel
theorem dX2_undoOut_128 : decode cX2_undoOut 128 = .ok (.invokevirtual 62, 3) := by decide +kernel
theorem dX2_undoOut_131 : decode cX2_undoOut 131 = .ok (.iload 8, 2) := by decide +kernel
theorem dX2_undoOut_133 : decode cX2_undoOut 133 = .ok (.iload 6, 2) := by decide +kernel
theorem dX2_undoOut_135 : decode cX2_undoOut 135 = .ok (.iadd, 1) := by decide +kernel
theorem dX2_undoOut_136 : decode cX2_undoOut 136 = .ok (.istore 8, 2) := by decide +kernel
theorem dX2_undoOut_138 : decode cX2_undoOut 138 = .ok (.iinc 10 1, 3) := by decide +kernel
theorem dX2_undoOut_141 : decode cX2_undoOut 141 = .ok (.goto (-69), 3) := by decide +kernel
theorem dX2_undoOut_144 : decode cX2_undoOut 144 = .ok (.iload 5, 2) := by decide +kernel
theorem dX2_undoOut_146 : decode cX2_undoOut 146 = .ok (.iload 4, 2) := by decide +kernel
theorem dX2_undoOut_148 : decode cX2_undoOut 148 = .ok (.bipush 6, 2) := by decide +kernel
theorem dX2_undoOut_150 : decode cX2_undoOut 150 = .ok (.irem, 1) := by decide +kernel
theorem dX2_undoOut_151 : decode cX2_undoOut 151 = .ok (.iload 6, 2) := by decide +kernel
theorem dX2_undoOut_153 : decode cX2_undoOut 153 = .ok (.imul, 1) := by decide +kernel
theorem dX2_undoOut_154 : decode cX2_undoOut 154 = .ok (.iadd, 1) := by decide +kernel
theorem dX2_undoOut_155 : decode cX2_undoOut 155 = .ok (.istore 5, 2) := by decide +kernel
theorem dX2_undoOut_157 : decode cX2_undoOut 157 = .ok (.iload 4, 2) := by decide +kernel
theorem dX2_undoOut_159 : decode cX2_undoOut 159 = .ok (.bipush 6, 2) := by decide +kernel
theorem dX2_undoOut_161 : decode cX2_undoOut 161 = .ok (.idiv, 1) := by decide +kernel
theorem dX2_undoOut_162 : decode cX2_undoOut 162 = .ok (.istore 4, 2) := by decide +kernel
theorem dX2_undoOut_164 : decode cX2_undoOut 164 = .ok (.iload 6, 2) := by decide +kernel
theorem dX2_undoOut_166 : decode cX2_undoOut 166 = .ok (.bipush 6, 2) := by decide +kernel
theorem dX2_undoOut_168 : decode cX2_undoOut 168 = .ok (.imul, 1) := by decide +kernel
theorem dX2_undoOut_169 : decode cX2_undoOut 169 = .ok (.istore 6, 2) := by decide +kernel
theorem dX2_undoOut_171 : decode cX2_undoOut 171 = .ok (.iinc 7 (-1), 3) := by decide +kernel
theorem dX2_undoOut_174 : decode cX2_undoOut 174 = .ok (.goto (-156), 3) := by decide +kernel
theorem dX2_undoOut_177 : decode cX2_undoOut 177 = .ok (.return_, 1) := by decide +kernel
theorem dX2_undoInAndDouble_0 : decode cX2_undoInAndDouble 0 = .ok (.iload_n 1, 1) := by decide +kernel
theorem dX2_undoInAndDouble_1 : decode cX2_undoInAndDouble 1 = .ok (.getstatic 94, 3) := by decide +kernel
theorem dX2_undoInAndDouble_4 : decode cX2_undoInAndDouble 4 = .ok (.iload_n 2, 1) := by decide +kernel
theorem dX2_undoInAndDouble_5 : decode cX2_undoInAndDouble 5 = .ok (.iaload, 1) := by decide +kernel
theorem dX2_undoInAndDouble_6 : decode cX2_undoInAndDouble 6 = .ok (.isub, 1) := by decide +kernel
theorem dX2_undoInAndDouble_7 : decode cX2_undoInAndDouble 7 = .ok (.istore 4, 2) := by decide +kernel
theorem dX2_undoInAndDouble_9 : decode cX2_undoInAndDouble 9 = .ok (.iconst 0, 1) := by decide +kernel
theorem dX2_undoInAndDouble_10 : decode cX2_undoInAndDouble 10 = .ok (.istore 5, 2) := by decide +kernel
theorem dX2_undoInAndDouble_12 : decode cX2_undoInAndDouble 12 = .ok (.iconst 1, 1) := by decide +kernel
theorem dX2_undoInAndDouble_13 : decode cX2_undoInAndDouble 13 = .ok (.istore 6, 2) := by decide +kernel
theorem dX2_undoInAndDouble_15 : decode cX2_undoInAndDouble 15 = .ok (.iconst (-1), 1) := by decide +kernel
theorem dX2_undoInAndDouble_16 : decode cX2_undoInAndDouble 16 = .ok (.istore 7, 2) := by decide +kernel
theorem dX2_undoInAndDouble_18 : decode cX2_undoInAndDouble 18 = .ok (.iload_n 2, 1) := by decide +kernel
theorem dX2_undoInAndDouble_19 : decode cX2_undoInAndDouble 19 = .ok (.iconst 1, 1) := by decide +kernel
theorem dX2_undoInAndDouble_20 : decode cX2_undoInAndDouble 20 = .ok (.isub, 1) := by decide +kernel
theorem dX2_undoInAndDouble_21 : decode cX2_undoInAndDouble 21 = .ok (.istore 8, 2) := by decide +kernel
theorem dX2_undoInAndDouble_23 : decode cX2_undoInAndDouble 23 = .ok (.iload 8, 2) := by decide +kernel
theorem dX2_undoInAndDouble_25 : decode cX2_undoInAndDouble 25 = .ok (.ifCond .lt 154, 3) := by decide +kernel
theorem dX2_undoInAndDouble_28 : decode cX2_undoInAndDouble 28 = .ok (.iload 4, 2) := by decide +kernel
theorem dX2_undoInAndDouble_30 : decode cX2_undoInAndDouble 30 = .ok (.bipush 6, 2) := by decide +kernel
theorem dX2_undoInAndDouble_32 : decode cX2_undoInAndDouble 32 = .ok (.irem, 1) := by decide +kernel
theorem dX2_undoInAndDouble_33 : decode cX2_undoInAndDouble 33 = .ok (.istore 9, 2) := by decide +kernel
theorem dX2_undoInAndDouble_35 : decode cX2_undoInAndDouble 35 = .ok (.iload 4, 2) := by decide +kernel
theorem dX2_undoInAndDouble_37 : decode cX2_undoInAndDouble 37 = .ok (.bipush 6, 2) := by decide +kernel
theorem dX2_undoInAndDouble_39 : decode cX2_undoInAndDouble 39 = .ok (.idiv, 1) := by decide +kernel
theorem dX2_undoInAndDouble_40 : decode cX2_undoInAndDouble 40 = .ok (.istore 4, 2) := by decide +kernel
theorem dX2_undoInAndDouble_42 : decode cX2_undoInAndDouble 42 = .ok (.getstatic 94, 3) := by decide +kernel
theorem dX2_undoInAndDouble_45 : decode cX2_undoInAndDouble 45 = .ok (.iload_n 2, 1) := by decide +kernel
theorem dX2_undoInAndDouble_46 : decode cX2_undoInAndDouble 46 = .ok (.iconst 1, 1) := by decide +kernel
theorem dX2_undoInAndDouble_47 : decode cX2_undoInAndDouble 47 = .ok (.isub, 1) := by decide +kernel
theorem dX2_undoInAndDouble_48 : decode cX2_undoInAndDouble 48 = .ok (.iaload, 1) := by decide +kernel
theorem dX2_undoInAndDouble_49 : decode cX2_undoInAndDouble 49 = .ok (.iload 4, 2) := by decide +kernel
theorem dX2_undoInAndDouble_51 : decode cX2_undoInAndDouble 51 = .ok (.iload 6, 2) := by decide +kernel
theorem dX2_undoInAndDouble_53 : decode cX2_undoInAndDouble 53 = .ok (.imul, 1) := by decide +kernel
theorem dX2_undoInAndDouble_54 : decode cX2_undoInAndDouble 54 = .ok (.iadd, 1) := by decide +kernel
theorem dX2_undoInAndDouble_55 : decode cX2_undoInAndDouble 55 = .ok (.iload 5, 2) := by decide +kernel
theorem dX2_undoInAndDouble_57 : decode cX2_undoInAndDouble 57 = .ok (.iadd, 1) := by decide +kernel
theorem dX2_undoInAndDouble_58 : decode cX2_undoInAndDouble 58 = .ok (.istore 10, 2) := by decide +kernel
theorem dX2_undoInAndDouble_60 : decode cX2_undoInAndDouble 60 = .ok (.iload 10, 2) := by decide +kernel
theorem dX2_undoInAndDouble_62 : decode cX2_undoInAndDouble 62 = .ok (.ifCond .lt 90, 3) := by decide +kernel
theorem dX2_undoInAndDouble_65 : decode cX2_undoInAndDouble 65 = .ok (.iload 10, 2) := by decide +kernel
theorem dX2_undoInAndDouble_67 : decode cX2_undoInAndDouble 67 = .ok (.sipush 9331, 3) := by decide +kernel
theorem dX2_undoInAndDouble_70 : decode cX2_undoInAndDouble 70 = .ok (.if_icmp .ge 82, 3) := by decide +kernel
theorem dX2_undoInAndDouble_73 : decode cX2_undoInAndDouble 73 = .ok (.aload_n 0, 1) := by decide +kernel
theorem dX2_undoInAndDouble_74 : decode cX2_undoInAndDouble 74 = .ok (.getfield 9, 3) := by decide +kernel
theorem dX2_undoInAndDouble_77 : decode cX2_undoInAndDouble 77 = .ok (.iload 10, 2) := by decide +kernel
theorem dX2_undoInAndDouble_79 : decode cX2_undoInAndDouble 79 = .ok (.saload, 1) := by decide +kernel
theorem dX2_undoInAndDouble_80 : decode cX2_undoInAndDouble 80 = .ok (.iconst (-1), 1) := by decide +kernel
theorem dX2_undoInAndDouble_81 : decode cX2_undoInAndDouble 81 = .ok (.if_icmp .ne 71, 3) := by decide +kernel
theorem dX2_undoInAndDouble_84 : decode cX2_undoInAndDouble 84 = .ok (.iload_n 3, 1) := by decide +kernel
theorem dX2_undoInAndDouble_85 : decode cX2_undoInAndDouble 85 = .ok (.iconst 3, 1) := by decide +kernel
theorem dX2_undoInAndDouble_86 : decode cX2_undoInAndDouble 86 = .ok (.iload 9, 2) := by decide +kernel
theorem dX2_undoInAndDouble_88 : decode cX2_undoInAndDouble 88 = .ok (.imul, 1) := by decide +kernel
theorem dX2_undoInAndDouble_89 : decode cX2_undoInAndDouble 89 = .ok (.ishr, 1) := by decide +kernel
theorem dX2_undoInAndDouble_90 : decode cX2_undoInAndDouble 90 = .ok (.bipush 7, 2) := by decide +kernel
theorem dX2_undoInAndDouble_92 : decode cX2_undoInAndDouble 92 = .ok (.iand, 1) := by decide +kernel
theorem dX2_undoInAndDouble_93 : decode cX2_undoInAndDouble 93 = .ok (.iconst 1, 1) := by decide +kernel
theorem dX2_undoInAndDouble_94 : decode cX2_undoInAndDouble 94 = .ok (.isub, 1) := by decide +kernel
theorem dX2_undoInAndDouble_95 : decode cX2_undoInAndDouble 95 = .ok (.istore 11, 2) := by decide +kernel
theorem dX2_undoInAndDouble_97 : decode cX2_undoInAndDouble 97 = .ok (.aload_n 0, 1) := by decide +kernel
theorem dX2_undoInAndDouble_98 : decode cX2_undoInAndDouble 98 = .ok (.getfield 22, 3) := by decide +kernel
theorem dX2_undoInAndDouble_101 : decode cX2_undoInAndDouble 101 = .ok (.iconst 1, 1) := by decide +kernel
theorem dX2_undoInAndDouble_102 : decode cX2_undoInAndDouble 102 = .ok (.iload 9, 2) := by decide +kernel
theorem dX2_undoInAndDouble_104 : decode cX2_undoInAndDouble 104 = .ok (.iload 8, 2) := by decide +kernel
theorem dX2_undoInAndDouble_106 : decode cX2_undoInAndDouble 106 = .ok (.iload_n 2, 1) := by decide +kernel
theorem dX2_undoInAndDouble_107 : decode cX2_undoInAndDouble 107 = .ok (.iconst 1, 1) := by decide +kernel
theorem dX2_undoInAndDouble_108 : decode cX2_undoInAndDouble 108 = .ok (.isub, 1) := by decide +kernel
theorem dX2_undoInAndDouble_109 : decode cX2_undoInAndDouble 109 = .ok (.iload 11, 2) := by decide +kernel
theorem dX2_undoInAndDouble_111 : decode cX2_undoInAndDouble 111 = .ok (.invokevirtual 97, 3) := by decide +kernel
theorem dX2_undoInAndDouble_114 : decode cX2_undoInAndDouble 114 = .ok (.iconst (-1), 1) := by decide +kernel
theorem dX2_undoInAndDouble_115 : decode cX2_undoInAndDouble 115 = .ok (.if_icmp .ne 31, 3) := by decide +kernel
theorem dX2_undoInAndDouble_118 : decode cX2_undoInAndDouble 118 = .ok (.iload 7, 2) := by decide +kernel
theorem dX2_undoInAndDouble_120 : decode cX2_undoInAndDouble 120 = .ok (.iload 9, 2) := by decide +kernel
theorem dX2_undoInAndDouble_122 : decode cX2_undoInAndDouble 122 = .ok (.if_icmp .ne 30, 3) := by decide +kernel
theorem dX2_undoInAndDouble_125 : decode cX2_undoInAndDouble 125 = .ok (.aload_n 0, 1) := by decide +kernel
theorem dX2_undoInAndDouble_126 : decode cX2_undoInAndDouble 126 = .ok (.getfield 22, 3) := by decide +kernel
theorem dX2_undoInAndDouble_129 : decode cX2_undoInAndDouble 129 = .ok (.iconst 3, 1) := by decide +kernel
theorem dX2_undoInAndDouble_130 : decode cX2_undoInAndDouble 130 = .ok (.iload 9, 2) := by decide +kernel
theorem dX2_undoInAndDouble_132 : decode cX2_undoInAndDouble 132 = .ok (.iload 8, 2) := by decide +kernel
theorem dX2_undoInAndDouble_134 : decode cX2_undoInAndDouble 134 = .ok (.iload_n 2, 1) := by decide +kernel
theorem dX2_undoInAndDouble_135 : decode cX2_undoInAndDouble 135 = .ok (.iconst 1, 1) := by decide +kernel
theorem dX2_undoInAndDouble_136 : decode cX2_undoInAndDouble 136 = .ok (.isub, 1) := by decide +kernel
theorem dX2_undoInAndDouble_137 : decode cX2_undoInAndDouble 137 = .ok (.iload 11, 2) := by decide +kernel
theorem dX2_undoInAndDouble_139 : decode cX2_undoInAndDouble 139 = .ok (.invokevirtual 97, 3) := by decide +kernel
theorem dX2_undoInAndDouble_142 : decode cX2_undoInAndDouble 142 = .ok (.iconst (-1), 1) := by decide +kernel
theorem dX2_undoInAndDouble_143 : decode cX2_undoInAndDouble 143 = .ok (.if_icmp .eq 9, 3) := by decide +kernel
theorem dX2_undoInAndDouble_146 : decode cX2_undoInAndDouble 146 = .ok (.aload_n 0, 1) := by decide +kernel
theorem dX2_undoInAndDouble_147 : decode cX2_undoInAndDouble 147 = .ok (.iload 10, 2) := by decide +kernel
theorem dX2_undoInAndDouble_149 : decode cX2_undoInAndDouble 149 = .ok (.invokevirtual 62, 3) := by decide +kernel
theorem dX2_undoInAndDouble_152 : decode cX2_undoInAndDouble 152 = .ok (.iload 5, 2) := by decide +kernel
theorem dX2_undoInAndDouble_154 : decode cX2_undoInAndDouble 154 = .ok (.iload 9, 2) := by decide +kernel
theorem dX2_undoInAndDouble_156 : decode cX2_undoInAndDouble 156 = .ok (.iload 6, 2) := by decide +kernel
theorem dX2_undoInAndDouble_158 : decode cX2_undoInAndDouble 158 = .ok (.imul, 1) := by decide +kernel
theorem dX2_undoInAndDouble_159 : decode cX2_undoInAndDouble 159 = .ok (.iadd, 1) := by decide +kernel
theorem dX2_undoInAndDouble_160 : decode cX2_undoInAndDouble 160 = .ok (.istore 5, 2) := by decide +kernel
theorem dX2_undoInAndDouble_162 : decode cX2_undoInAndDouble 162 = .ok (.iload 6, 2) := by decide +kernel
theorem dX2_undoInAndDouble_164 : decode cX2_undoInAndDouble 164 = .ok (.bipush 6, 2) := by decide +kernel
theorem dX2_undoInAndDouble_166 : decode cX2_undoInAndDouble 166 = .ok (.imul, 1) := by decide +kernel
theorem dX2_undoInAndDouble_167 : decode cX2_undoInAndDouble 167 = .ok (.istore 6, 2) := by decide +kernel
theorem dX2_undoInAndDouble_169 : decode cX2_undoInAndDouble 169 = .ok (.iload 9, 2) := by decide +kernel
theorem dX2_undoInAndDouble_171 : decode cX2_undoInAndDouble 171 = .ok (.istore 7, 2) := by decide +kernel
theorem dX2_undoInAndDouble_173 : decode cX2_undoInAndDouble 173 = .ok (.iinc 8 (-1), 3) := by decide +kernel
theorem dX2_undoInAndDouble_176 : decode cX2_undoInAndDouble 176 = .ok (.goto (-153), 3) := by decide +kernel
theorem dX2_undoInAndDouble_179 : decode cX2_undoInAndDouble 179 = .ok (.return_, 1) := by decide +kernel
theorem dX2_undoSwap_0 : decode cX2_undoSwap 0 = .ok (.iload_n 1, 1) := by decide +kernel
theorem dX2_undoSwap_1 : decode cX2_undoSwap 1 = .ok (.getstatic 94, 3) := by decide +kernel
theorem dX2_undoSwap_4 : decode cX2_undoSwap 4 = .ok (.iload_n 2, 1) := by decide +kernel
theorem dX2_undoSwap_5 : decode cX2_undoSwap 5 = .ok (.iaload, 1) := by decide +kernel
theorem dX2_undoSwap_6 : decode cX2_undoSwap 6 = .ok (.isub, 1) := by decide +kernel
theorem dX2_undoSwap_7 : decode cX2_undoSwap 7 = .ok (.istore 4, 2) := by decide +kernel
theorem dX2_undoSwap_9 : decode cX2_undoSwap 9 = .ok (.iload 4, 2) := by decide +kernel
theorem dX2_undoSwap_11 : decode cX2_undoSwap 11 = .ok (.bipush 6, 2) := by decide +kernel
theorem dX2_undoSwap_13 : decode cX2_undoSwap 13 = .ok (.irem, 1) := by decide +kernel
theorem dX2_undoSwap_14 : decode cX2_undoSwap 14 = .ok (.istore 5, 2) := by decide +kernel
theorem dX2_undoSwap_16 : decode cX2_undoSwap 16 = .ok (.iconst 1, 1) := by decide +kernel
theorem dX2_undoSwap_17 : decode cX2_undoSwap 17 = .ok (.istore 6, 2) := by decide +kernel
theorem dX2_undoSwap_19 : decode cX2_undoSwap 19 = .ok (.iload_n 2, 1) := by decide +kernel
theorem dX2_undoSwap_20 : decode cX2_undoSwap 20 = .ok (.iconst 2, 1) := by decide +kernel
theorem dX2_undoSwap_21 : decode cX2_undoSwap 21 = .ok (.isub, 1) := by decide +kernel
theorem dX2_undoSwap_22 : decode cX2_undoSwap 22 = .ok (.istore 7, 2) := by decide +kernel
theorem dX2_undoSwap_24 : decode cX2_undoSwap 24 = .ok (.iload 7, 2) := by decide +kernel
theorem dX2_undoSwap_26 : decode cX2_undoSwap 26 = .ok (.ifCond .lt 104, 3) := by decide +kernel
theorem dX2_undoSwap_29 : decode cX2_undoSwap 29 = .ok (.iload 4, 2) := by decide +kernel
theorem dX2_undoSwap_31 : decode cX2_undoSwap 31 = .ok (.bipush 6, 2) := by decide +kernel
theorem dX2_undoSwap_33 : decode cX2_undoSwap 33 = .ok (.idiv, 1) := by decide +kernel
theorem dX2_undoSwap_34 : decode cX2_undoSwap 34 = .ok (.istore 4, 2) := by decide +kernel
theorem dX2_undoSwap_36 : decode cX2_undoSwap 36 = .ok (.iload 4, 2) := by decide +kernel
theorem dX2_undoSwap_38 : decode cX2_undoSwap 38 = .ok (.bipush 6, 2) := by decide +kernel
theorem dX2_undoSwap_40 : decode cX2_undoSwap 40 = .ok (.irem, 1) := by decide +kernel
theorem dX2_undoSwap_41 : decode cX2_undoSwap 41 = .ok (.istore 8, 2) := by decide +kernel
theorem dX2_undoSwap_43 : decode cX2_undoSwap 43 = .ok (.iload_n 1, 1) := by decide +kernel
theorem dX2_undoSwap_44 : decode cX2_undoSwap 44 = .ok (.iload 5, 2) := by decide +kernel
theorem dX2_undoSwap_46 : decode cX2_undoSwap 46 = .ok (.iload 8, 2) := by decide +kernel
theorem dX2_undoSwap_48 : decode cX2_undoSwap 48 = .ok (.isub, 1) := by decide +kernel
theorem dX2_undoSwap_49 : decode cX2_undoSwap 49 = .ok (.iload 6, 2) := by decide +kernel
theorem dX2_undoSwap_51 : decode cX2_undoSwap 51 = .ok (.imul, 1) := by decide +kernel
theorem dX2_undoSwap_52 : decode cX2_undoSwap 52 = .ok (.iconst 5, 1) := by decide +kernel
theorem dX2_undoSwap_53 : decode cX2_undoSwap 53 = .ok (.imul, 1) := by decide +kernel
theorem dX2_undoSwap_54 : decode cX2_undoSwap 54 = .ok (.iadd, 1) := by decide +kernel
theorem dX2_undoSwap_55 : decode cX2_undoSwap 55 = .ok (.istore 9, 2) := by decide +kernel
theorem dX2_undoSwap_57 : decode cX2_undoSwap 57 = .ok (.iload 9, 2) := by decide +kernel
theorem dX2_undoSwap_59 : decode cX2_undoSwap 59 = .ok (.ifCond .lt 54, 3) := by decide +kernel
theorem dX2_undoSwap_62 : decode cX2_undoSwap 62 = .ok (.iload 9, 2) := by decide +kernel
theorem dX2_undoSwap_64 : decode cX2_undoSwap 64 = .ok (.sipush 9331, 3) := by decide +kernel
theorem dX2_undoSwap_67 : decode cX2_undoSwap 67 = .ok (.if_icmp .ge 46, 3) := by decide +kernel
theorem dX2_undoSwap_70 : decode cX2_undoSwap 70 = .ok (.aload_n 0, 1) := by decide +kernel
theorem dX2_undoSwap_71 : decode cX2_undoSwap 71 = .ok (.getfield 9, 3) := by decide +kernel
theorem dX2_undoSwap_74 : decode cX2_undoSwap 74 = .ok (.iload 9, 2) := by decide +kernel
theorem dX2_undoSwap_76 : decode cX2_undoSwap 76 = .ok (.saload, 1) := by decide +kernel
theorem dX2_undoSwap_77 : decode cX2_undoSwap 77 = .ok (.iconst (-1), 1) := by decide +kernel
theorem dX2_undoSwap_78 : decode cX2_undoSwap 78 = .ok (.if_icmp .ne 35, 3) := by decide +kernel
theorem dX2_undoSwap_81 : decode cX2_undoSwap 81 = .ok (.aload_n 0, 1) := by decide +kernel
theorem dX2_undoSwap_82 : decode cX2_undoSwap 82 = .ok (.getfield 22, 3) := by decide +kernel
theorem dX2_undoSwap_85 : decode cX2_undoSwap 85 = .ok (.iconst 2, 1) := by decide +kernel
theorem dX2_undoSwap_86 : decode cX2_undoSwap 86 = .ok (.iload 5, 2) := by decide +kernel
theorem dX2_undoSwap_88 : decode cX2_undoSwap 88 = .ok (.iload 7, 2) := by decide +kernel
theorem dX2_undoSwap_90 : decode cX2_undoSwap 90 = .ok (.iload_n 2, 1) := by decide +kernel
theorem dX2_undoSwap_91 : decode cX2_undoSwap 91 = .ok (.iload_n 3, 1) := by decide +kernel
theorem dX2_undoSwap_92 : decode cX2_undoSwap 92 = .ok (.iconst 3, 1) := by decide +kernel
theorem dX2_undoSwap_93 : decode cX2_undoSwap 93 = .ok (.iload 5, 2) := by decide +kernel
theorem dX2_undoSwap_95 : decode cX2_undoSwap 95 = .ok (.imul, 1) := by decide +kernel
theorem dX2_undoSwap_96 : decode cX2_undoSwap 96 = .ok (.ishr, 1) := by decide +kernel
theorem dX2_undoSwap_97 : decode cX2_undoSwap 97 = .ok (.bipush 7, 2) := by decide +kernel
theorem dX2_undoSwap_99 : decode cX2_undoSwap 99 = .ok (.iand, 1) := by decide +kernel
theorem dX2_undoSwap_100 : decode cX2_undoSwap 100 = .ok (.invokevirtual 97, 3) := by decide +kernel
theorem dX2_undoSwap_103 : decode cX2_undoSwap 103 = .ok (.iconst (-1), 1) := by decide +kernel
theorem dX2_undoSwap_104 : decode cX2_undoSwap 104 = .ok (.if_icmp .eq 9, 3) := by decide +kernel
theorem dX2_undoSwap_107 : decode cX2_undoSwap 107 = .ok (.aload_n 0, 1) := by decide +kernel
theorem dX2_undoSwap_108 : decode cX2_undoSwap 108 = .ok (.iload 9, 2) := by decide +kernel
theorem dX2_undoSwap_110 : decode cX2_undoSwap 110 = .ok (.invokevirtual 62, 3) := by decide +kernel
theorem dX2_undoSwap_113 : decode cX2_undoSwap 113 = .ok (.iload 6, 2) := by decide +kernel
theorem dX2_undoSwap_115 : decode cX2_undoSwap 115 = .ok (.bipush 6, 2) := by decide +kernel
theorem dX2_undoSwap_117 : decode cX2_undoSwap 117 = .ok (.imul, 1) := by decide +kernel
theorem dX2_undoSwap_118 : decode cX2_undoSwap 118 = .ok (.istore 6, 2) := by decide +kernel
theorem dX2_undoSwap_120 : decode cX2_undoSwap 120 = .ok (.iload 8, 2) := by decide +kernel
theorem dX2_undoSwap_122 : decode cX2_undoSwap 122 = .ok (.istore 5, 2) := by decide +kernel
theorem dX2_undoSwap_124 : decode cX2_undoSwap 124 = .ok (.iinc 7 (-1), 3) := by decide +kernel
theorem dX2_undoSwap_127 : decode cX2_undoSwap 127 = .ok (.goto (-103), 3) := by decide +kernel
theorem dX2_undoSwap_130 : decode cX2_undoSwap 130 = .ok (.return_, 1) := by decide +kernel
theorem dX2_undoStand_0 : decode cX2_undoStand 0 = .ok (.iload_n 1, 1) := by decide +kernel
theorem dX2_undoStand_1 : decode cX2_undoStand 1 = .ok (.getstatic 94, 3) := by decide +kernel
theorem dX2_undoStand_4 : decode cX2_undoStand 4 = .ok (.iload_n 2, 1) := by decide +kernel
theorem dX2_undoStand_5 : decode cX2_undoStand 5 = .ok (.iaload, 1) := by decide +kernel
theorem dX2_undoStand_6 : decode cX2_undoStand 6 = .ok (.isub, 1) := by decide +kernel
theorem dX2_undoStand_7 : decode cX2_undoStand 7 = .ok (.istore 4, 2) := by decide +kernel
theorem dX2_undoStand_9 : decode cX2_undoStand 9 = .ok (.iconst 1, 1) := by decide +kernel
theorem dX2_undoStand_10 : decode cX2_undoStand 10 = .ok (.istore 5, 2) := by decide +kernel
theorem dX2_undoStand_12 : decode cX2_undoStand 12 = .ok (.iload_n 2, 1) := by decide +kernel
theorem dX2_undoStand_13 : decode cX2_undoStand 13 = .ok (.iconst 1, 1) := by decide +kernel
theorem dX2_undoStand_14 : decode cX2_undoStand 14 = .ok (.isub, 1) := by decide +kernel
theorem dX2_undoStand_15 : decode cX2_undoStand 15 = .ok (.istore 6, 2) := by decide +kernel
theorem dX2_undoStand_17 : decode cX2_undoStand 17 = .ok (.iload 6, 2) := by decide +kernel
theorem dX2_undoStand_19 : decode cX2_undoStand 19 = .ok (.ifCond .lt 144, 3) := by decide +kernel
theorem dX2_undoStand_22 : decode cX2_undoStand 22 = .ok (.iload 4, 2) := by decide +kernel
theorem dX2_undoStand_24 : decode cX2_undoStand 24 = .ok (.bipush 6, 2) := by decide +kernel
theorem dX2_undoStand_26 : decode cX2_undoStand 26 = .ok (.irem, 1) := by decide +kernel
theorem dX2_undoStand_27 : decode cX2_undoStand 27 = .ok (.istore 7, 2) := by decide +kernel
theorem dX2_undoStand_29 : decode cX2_undoStand 29 = .ok (.iconst 0, 1) := by decide +kernel
theorem dX2_undoStand_30 : decode cX2_undoStand 30 = .ok (.istore 8, 2) := by decide +kernel
theorem dX2_undoStand_32 : decode cX2_undoStand 32 = .ok (.iload 8, 2) := by decide +kernel
theorem dX2_undoStand_34 : decode cX2_undoStand 34 = .ok (.bipush 6, 2) := by decide +kernel
theorem dX2_undoStand_36 : decode cX2_undoStand 36 = .ok (.if_icmp .ge 107, 3) := by decide +kernel
theorem dX2_undoStand_39 : decode cX2_undoStand 39 = .ok (.aload_n 0, 1) := by decide +kernel
theorem dX2_undoStand_40 : decode cX2_undoStand 40 = .ok (.getfield 39, 3) := by decide +kernel
theorem dX2_undoStand_43 : decode cX2_undoStand 43 = .ok (.iload 7, 2) := by decide +kernel
theorem dX2_undoStand_45 : decode cX2_undoStand 45 = .ok (.ishr, 1) := by decide +kernel
theorem dX2_undoStand_46 : decode cX2_undoStand 46 = .ok (.iconst 1, 1) := by decide +kernel
theorem dX2_undoStand_47 : decode cX2_undoStand 47 = .ok (.iand, 1) := by decide +kernel
theorem dX2_undoStand_48 : decode cX2_undoStand 48 = .ok (.iconst 1, 1) := by decide +kernel
theorem dX2_undoStand_49 : decode cX2_undoStand 49 = .ok (.if_icmp .ne 94, 3) := by decide +kernel
theorem dX2_undoStand_52 : decode cX2_undoStand 52 = .ok (.iload_n 1, 1) := by decide +kernel
theorem dX2_undoStand_53 : decode cX2_undoStand 53 = .ok (.iload 8, 2) := by decide +kernel
theorem dX2_undoStand_55 : decode cX2_undoStand 55 = .ok (.iload 7, 2) := by decide +kernel
theorem dX2_undoStand_57 : decode cX2_undoStand 57 = .ok (.isub, 1) := by decide +kernel
theorem dX2_undoStand_58 : decode cX2_undoStand 58 = .ok (.iload 5, 2) := by decide +kernel
theorem dX2_undoStand_60 : decode cX2_undoStand 60 = .ok (.imul, 1) := by decide +kernel
theorem dX2_undoStand_61 : decode cX2_undoStand 61 = .ok (.iadd, 1) := by decide +kernel
theorem dX2_undoStand_62 : decode cX2_undoStand 62 = .ok (.istore 9, 2) := by decide +kernel
theorem dX2_undoStand_64 : decode cX2_undoStand 64 = .ok (.aload_n 0, 1) := by decide +kernel
theorem dX2_undoStand_65 : decode cX2_undoStand 65 = .ok (.getfield 18, 3) := by decide +kernel
theorem dX2_undoStand_68 : decode cX2_undoStand 68 = .ok (.getfield 42, 3) := by decide +kernel
theorem dX2_undoStand_71 : decode cX2_undoStand 71 = .ok (.iload 8, 2) := by decide +kernel
theorem dX2_undoStand_73 : decode cX2_undoStand 73 = .ok (.iaload, 1) := by decide +kernel
theorem dX2_undoStand_74 : decode cX2_undoStand 74 = .ok (.iload 7, 2) := by decide +kernel
theorem dX2_undoStand_76 : decode cX2_undoStand 76 = .ok (.if_icmp .ne 61, 3) := by decide +kernel
theorem dX2_undoStand_79 : decode cX2_undoStand 79 = .ok (.iload 9, 2) := by decide +kernel
theorem dX2_undoStand_81 : decode cX2_undoStand 81 = .ok (.ifCond .lt 56, 3) := by decide +kernel
theorem dX2_undoStand_84 : decode cX2_undoStand 84 = .ok (.iload 9, 2) := by decide +kernel
theorem dX2_undoStand_86 : decode cX2_undoStand 86 = .ok (.sipush 9331, 3) := by decide +kernel
theorem dX2_undoStand_89 : decode cX2_undoStand 89 = .ok (.if_icmp .ge 48, 3) := by decide +kernel
theorem dX2_undoStand_92 : decode cX2_undoStand 92 = .ok (.aload_n 0, 1) := by decide +kernel
theorem dX2_undoStand_93 : decode cX2_undoStand 93 = .ok (.getfield 9, 3) := by decide +kernel
theorem dX2_undoStand_96 : decode cX2_undoStand 96 = .ok (.iload 9, 2) := by decide +kernel
theorem dX2_undoStand_98 : decode cX2_undoStand 98 = .ok (.saload, 1) := by decide +kernel
theorem dX2_undoStand_99 : decode cX2_undoStand 99 = .ok (.iconst (-1), 1) := by decide +kernel
theorem dX2_undoStand_100 : decode cX2_undoStand 100 = .ok (.if_icmp .ne 37, 3) := by decide +kernel
theorem dX2_undoStand_103 : decode cX2_undoStand 103 = .ok (.aload_n 0, 1) := by decide +kernel
theorem dX2_undoStand_104 : decode cX2_undoStand 104 = .ok (.getfield 22, 3) := by decide +kernel
theorem dX2_undoStand_107 : decode cX2_undoStand 107 = .ok (.iconst 4, 1) := by decide +kernel
theorem dX2_undoStand_108 : decode cX2_undoStand 108 = .ok (.iload 8, 2) := by decide +kernel
theorem dX2_undoStand_110 : decode cX2_undoStand 110 = .ok (.iload 6, 2) := by decide +kernel
theorem dX2_undoStand_112 : decode cX2_undoStand 112 = .ok (.iload_n 2, 1) := by decide +kernel
theorem dX2_undoStand_113 : decode cX2_undoStand 113 = .ok (.iload_n 3, 1) := by decide +kernel
theorem dX2_undoStand_114 : decode cX2_undoStand 114 = .ok (.iconst 3, 1) := by decide +kernel
theorem dX2_undoStand_115 : decode cX2_undoStand 115 = .ok (.iload 8, 2) := by decide +kernel
theorem dX2_undoStand_117 : decode cX2_undoStand 117 = .ok (.imul, 1) := by decide +kernel
theorem dX2_undoStand_118 : decode cX2_undoStand 118 = .ok (.ishr, 1) := by decide +kernel
theorem dX2_undoStand_119 : decode cX2_undoStand 119 = .ok (.bipush 7, 2) := by decide +kernel
theorem dX2_undoStand_121 : decode cX2_undoStand 121 = .ok (.iand, 1) := by decide +kernel
theorem dX2_undoStand_122 : decode cX2_undoStand 122 = .ok (.iconst 1, 1) := by decide +kernel
theorem dX2_undoStand_123 : decode cX2_undoStand 123 = .ok (.iadd, 1) := by decide +kernel
theorem dX2_undoStand_124 : decode cX2_undoStand 124 = .ok (.invokevirtual 97, 3) := by decide +kernel
theorem dX2_undoStand_127 : decode cX2_undoStand 127 = .ok (.iconst (-1), 1) := by decide +kernel
theorem dX2_undoStand_128 : decode cX2_undoStand 128 = .ok (.if_icmp .eq 9, 3) := by decide +kernel
theorem dX2_undoStand_131 : decode cX2_undoStand 131 = .ok (.aload_n 0, 1) := by decide +kernel
theorem dX2_undoStand_132 : decode cX2_undoStand 132 = .ok (.iload 9, 2) := by decide +kernel
theorem dX2_undoStand_134 : decode cX2_undoStand 134 = .ok (.invokevirtual 62, 3) := by decide +kernel
theorem dX2_undoStand_137 : decode cX2_undoStand 137 = .ok (.iinc 8 1, 3) := by decide +kernel
theorem dX2_undoStand_140 : decode cX2_undoStand 140 = .ok (.goto (-108), 3) := by decide +kernel
theorem dX2_undoStand_143 : decode cX2_undoStand 143 = .ok (.iload 4, 2) := by decide +kernel
theorem dX2_undoStand_145 : decode cX2_undoStand 145 = .ok (.bipush 6, 2) := by decide +kernel
theorem dX2_undoStand_147 : decode cX2_undoStand 147 = .ok (.idiv, 1) := by decide +kernel
theorem dX2_undoStand_148 : decode cX2_undoStand 148 = .ok (.istore 4, 2) := by decide +kernel
theorem dX2_undoStand_150 : decode cX2_undoStand 150 = .ok (.iload 5, 2) := by decide +kernel
theorem dX2_undoStand_152 : decode cX2_undoStand 152 = .ok (.bipush 6, 2) := by decide +kernel
theorem dX2_undoStand_154 : decode cX2_undoStand 154 = .ok (.imul, 1) := by decide +kernel
theorem dX2_undoStand_155 : decode cX2_undoStand 155 = .ok (.istore 5, 2) := by decide +kernel
theorem dX2_undoStand_157 : decode cX2_undoStand 157 = .ok (.iinc 6 (-1), 3) := by decide +kernel
theorem dX2_undoStand_160 : decode cX2_undoStand 160 = .ok (.goto (-143), 3) := by decide +kernel
theorem dX2_undoStand_163 : decode cX2_undoStand 163 = .ok (.return_, 1) := by decide +kernel
theorem dX3_init_0 : decode cX3_init 0 = .ok (.aload_n 0, 1) := by decide +kernel
theorem dX3_init_1 : decode cX3_init 1 = .ok (.invokespecial 3, 3) := by decide +kernel
theorem dX3_init_4 : decode cX3_init 4 = .ok (.aload_n 0, 1) := by decide +kernel
theorem dX3_init_5 : decode cX3_init 5 = .ok (.bipush 88, 2) := by decide +kernel
theorem dX3_init_7 : decode cX3_init 7 = .ok (.newarray .int, 2) := by decide +kernel
theorem dX3_init_9 : decode cX3_init 9 = .ok (.putfield 9, 3) := by decide +kernel
theorem dX3_init_12 : decode cX3_init 12 = .ok (.aload_n 0, 1) := by decide +kernel
theorem dX3_init_13 : decode cX3_init 13 = .ok (.bipush 64, 2) := by decide +kernel
theorem dX3_init_15 : decode cX3_init 15 = .ok (.newarray .long, 2) := by decide +kernel
theorem dX3_init_17 : decode cX3_init 17 = .ok (.putfield 15, 3) := by decide +kernel
theorem dX3_init_20 : decode cX3_init 20 = .ok (.return_, 1) := by decide +kernel
theorem dX3_run_0 : decode cX3_run 0 = .ok (.iconst 0, 1) := by decide +kernel
theorem dX3_run_1 : decode cX3_run 1 = .ok (.istore_n 3, 1) := by decide +kernel
theorem dX3_run_2 : decode cX3_run 2 = .ok (.iload_n 2, 1) := by decide +kernel
theorem dX3_run_3 : decode cX3_run 3 = .ok (.iconst 0, 1) := by decide +kernel
theorem dX3_run_4 : decode cX3_run 4 = .ok (.invokestatic 19, 3) := by decide +kernel
theorem dX3_run_7 : decode cX3_run 7 = .ok (.istore 4, 2) := by decide +kernel
theorem dX3_run_9 : decode cX3_run 9 = .ok (.iload 4, 2) := by decide +kernel
theorem dX3_run_11 : decode cX3_run 11 = .ok (.aload_n 1, 1) := by decide +kernel
theorem dX3_run_12 : decode cX3_run 12 = .ok (.arraylength, 1) := by decide +kernel
theorem dX3_run_13 : decode cX3_run 13 = .ok (.if_icmp .ge 296, 3) := by decide +kernel
theorem dX3_run_16 : decode cX3_run 16 = .ok (.aload_n 1, 1) := by decide +kernel
theorem dX3_run_17 : decode cX3_run 17 = .ok (.iload 4, 2) := by decide +kernel
theorem dX3_run_19 : decode cX3_run 19 = .ok (.iaload, 1) := by decide +kernel
theorem dX3_run_20 : decode cX3_run 20 = .ok (.bipush 15, 2) := by decide +kernel
theorem dX3_run_22 : decode cX3_run 22 = .ok (.iand, 1) := by decide +kernel
theorem dX3_run_23 : decode cX3_run 23 = .ok (.istore 5, 2) := by decide +kernel
theorem dX3_run_25 : decode cX3_run 25 = .ok (.aload_n 1, 1) := by decide +kernel
theorem dX3_run_26 : decode cX3_run 26 = .ok (.iload 4, 2) := by decide +kernel
theorem dX3_run_28 : decode cX3_run 28 = .ok (.iaload, 1) := by decide +kernel
theorem dX3_run_29 : decode cX3_run 29 = .ok (.iconst 4, 1) := by decide +kernel
theorem dX3_run_30 : decode cX3_run 30 = .ok (.ishr, 1) := by decide +kernel
theorem dX3_run_31 : decode cX3_run 31 = .ok (.istore 6, 2) := by decide +kernel
theorem dX3_run_33 : decode cX3_run 33 = .ok (.iload 5, 2) := by decide +kernel
theorem dX3_run_35 : decode cX3_run 35 = .ok (.iconst 1, 1) := by decide +kernel
theorem dX3_run_36 : decode cX3_run 36 = .ok (.if_icmp .eq 9, 3) := by decide +kernel
theorem dX3_run_39 : decode cX3_run 39 = .ok (.iload 5, 2) := by decide +kernel
theorem dX3_run_41 : decode cX3_run 41 = .ok (.iconst 2, 1) := by decide +kernel
theorem dX3_run_42 : decode cX3_run 42 = .ok (.if_icmp .ne 61, 3) := by decide +kernel
theorem dX3_run_45 : decode cX3_run 45 = .ok (.iload_n 3, 1) := by decide +kernel
theorem dX3_run_46 : decode cX3_run 46 = .ok (.aload_n 0, 1) := by decide +kernel
theorem dX3_run_47 : decode cX3_run 47 = .ok (.getfield 15, 3) := by decide +kernel
theorem dX3_run_50 : decode cX3_run 50 = .ok (.arraylength, 1) := by decide +kernel
theorem dX3_run_51 : decode cX3_run 51 = .ok (.if_icmp .ge 16, 3) := by decide +kernel
theorem dX3_run_54 : decode cX3_run 54 = .ok (.iload 5, 2) := by decide +kernel
theorem dX3_run_56 : decode cX3_run 56 = .ok (.iconst 2, 1) := by decide +kernel
theorem dX3_run_57 : decode cX3_run 57 = .ok (.if_icmp .ne 14, 3) := by decide +kernel
theorem dX3_run_60 : decode cX3_run 60 = .ok (.iload 6, 2) := by decide +kernel
theorem dX3_run_62 : decode cX3_run 62 = .ok (.bipush 88, 2) := by decide +kernel
theorem dX3_run_64 : decode cX3_run 64 = .ok (.if_icmp .lt 7, 3) := by decide +kernel
theorem dX3_run_67 : decode cX3_run 67 = .ok (.ldc2_w 25, 3) := by decide +kernel
theorem dX3_run_70 : decode cX3_run 70 = .ok (.lreturn, 1) := by decide +kernel
theorem dX3_run_71 : decode cX3_run 71 = .ok (.aload_n 0, 1) := by decide +kernel
theorem dX3_run_72 : decode cX3_run 72 = .ok (.getfield 15, 3) := by decide +kernel
theorem dX3_run_75 : decode cX3_run 75 = .ok (.iload_n 3, 1) := by decide +kernel
theorem dX3_run_76 : decode cX3_run 76 = .ok (.iload 5, 2) := by decide +kernel
theorem dX3_run_78 : decode cX3_run 78 = .ok (.iconst 1, 1) := by decide +kernel
theorem dX3_run_79 : decode cX3_run 79 = .ok (.if_icmp .ne 9, 3) := by decide +kernel
theorem dX3_run_82 : decode cX3_run 82 = .ok (.iload 6, 2) := by decide +kernel
theorem dX3_run_84 : decode cX3_run 84 = .ok (.i2l, 1) := by decide +kernel
theorem dX3_run_85 : decode cX3_run 85 = .ok (.goto 11, 3) := by decide +kernel
theorem dX3_run_88 : decode cX3_run 88 = .ok (.aload_n 0, 1) := by decide +kernel
theorem dX3_run_89 : decode cX3_run 89 = .ok (.getfield 9, 3) := by decide +kernel
theorem dX3_run_92 : decode cX3_run 92 = .ok (.iload 6, 2) := by decide +kernel
theorem dX3_run_94 : decode cX3_run 94 = .ok (.iaload, 1) := by decide +kernel
theorem dX3_run_95 : decode cX3_run 95 = .ok (.i2l, 1) := by decide +kernel
theorem dX3_run_96 : decode cX3_run 96 = .ok (.lastore, 1) := by decide +kernel
theorem dX3_run_97 : decode cX3_run 97 = .ok (.iinc 3 1, 3) := by decide +kernel
theorem dX3_run_100 : decode cX3_run 100 = .ok (.goto 203, 3) := by decide +kernel
theorem dX3_run_103 : decode cX3_run 103 = .ok (.iload_n 3, 1) := by decide +kernel
theorem dX3_run_104 : decode cX3_run 104 = .ok (.iconst 1, 1) := by decide +kernel
theorem dX3_run_105 : decode cX3_run 105 = .ok (.if_icmp .ge 7, 3) := by decide +kernel
theorem dX3_run_108 : decode cX3_run 108 = .ok (.ldc2_w 25, 3) := by decide +kernel
theorem dX3_run_111 : decode cX3_run 111 = .ok (.lreturn, 1) := by decide +kernel
theorem dX3_run_112 : decode cX3_run 112 = .ok (.iload 5, 2) := by decide +kernel
theorem dX3_run_114 : decode cX3_run 114 = .ok (.ifCond .ne 10, 3) := by decide +kernel
theorem dX3_run_117 : decode cX3_run 117 = .ok (.aload_n 0, 1) := by decide +kernel
theorem dX3_run_118 : decode cX3_run 118 = .ok (.getfield 15, 3) := by decide +kernel
theorem dX3_run_121 : decode cX3_run 121 = .ok (.iconst 0, 1) := by decide +kernel
theorem dX3_run_122 : decode cX3_run 122 = .ok (.laload, 1) := by decide +kernel
theorem dX3_run_123 : decode cX3_run 123 = .ok (.lreturn, 1) := by decide +kernel
theorem dX3_run_124 : decode cX3_run 124 = .ok (.iload 5, 2) := by decide +kernel
theorem dX3_run_126 : decode cX3_run 126 = .ok (.bipush 11, 2) := by decide +kernel
theorem dX3_run_128 : decode cX3_run 128 = .ok (.if_icmp .ne 24, 3) := by decide +kernel
theorem dX3_run_131 : decode cX3_run 131 = .ok (.aload_n 0, 1) := by decide +kernel
theorem dX3_run_132 : decode cX3_run 132 = .ok (.getfield 15, 3) := by decide +kernel
theorem dX3_run_135 : decode cX3_run 135 = .ok (.iload_n 3, 1) := by decide +kernel
theorem dX3_run_136 : decode cX3_run 136 = .ok (.iconst 1, 1) := by decide +kernel
theorem dX3_run_137 : decode cX3_run 137 = .ok (.isub, 1) := by decide +kernel
theorem dX3_run_138 : decode cX3_run 138 = .ok (.lconst 1, 1) := by decide +kernel
theorem dX3_run_139 : decode cX3_run 139 = .ok (.aload_n 0, 1) := by decide +kernel
theorem dX3_run_140 : decode cX3_run 140 = .ok (.getfield 15, 3) := by decide +kernel
theorem dX3_run_143 : decode cX3_run 143 = .ok (.iload_n 3, 1) := by decide +kernel
theorem dX3_run_144 : decode cX3_run 144 = .ok (.iconst 1, 1) := by decide +kernel
theorem dX3_run_145 : decode cX3_run 145 = .ok (.isub, 1) := by decide +kernel
theorem dX3_run_146 : decode cX3_run 146 = .ok (.laload, 1) := by decide +kernel
theorem dX3_run_147 : decode cX3_run 147 = .ok (.lsub, 1) := by decide +kernel
theorem dX3_run_148 : decode cX3_run 148 = .ok (.lastore, 1) := by decide +kernel
theorem dX3_run_149 : decode cX3_run 149 = .ok (.goto 154, 3) := by decide +kernel
theorem dX3_run_152 : decode cX3_run 152 = .ok (.iload 5, 2) := by decide +kernel
theorem dX3_run_154 : decode cX3_run 154 = .ok (.bipush 12, 2) := by decide +kernel
theorem dX3_run_156 : decode cX3_run 156 = .ok (.if_icmp .eq 10, 3) := by decide +kernel
theorem dX3_run_159 : decode cX3_run 159 = .ok (.iload 5, 2) := by decide +kernel
theorem dX3_run_161 : decode cX3_run 161 = .ok (.bipush 13, 2) := by decide +kernel
theorem dX3_run_163 : decode cX3_run 163 = .ok (.if_icmp .ne 80, 3) := by decide +kernel
theorem dX3_run_166 : decode cX3_run 166 = .ok (.aload_n 0, 1) := by decide +kernel
theorem dX3_run_167 : decode cX3_run 167 = .ok (.getfield 15, 3) := by decide +kernel
theorem dX3_run_170 : decode cX3_run 170 = .ok (.iload_n 3, 1) := by decide +kernel
theorem dX3_run_171 : decode cX3_run 171 = .ok (.iconst 1, 1) := by decide +kernel
theorem dX3_run_172 : decode cX3_run 172 = .ok (.isub, 1) := by decide +kernel
theorem dX3_run_173 : decode cX3_run 173 = .ok (.laload, 1) := by decide +kernel
theorem dX3_run_174 : decode cX3_run 174 = .ok (.lconst 1, 1) := by decide +kernel
theorem dX3_run_175 : decode cX3_run 175 = .ok (.lcmp, 1) := by decide +kernel
theorem dX3_run_176 : decode cX3_run 176 = .ok (.ifCond .ne 7, 3) := by decide +kernel
theorem dX3_run_179 : decode cX3_run 179 = .ok (.iconst 1, 1) := by decide +kernel
theorem dX3_run_180 : decode cX3_run 180 = .ok (.goto 4, 3) := by decide +kernel
theorem dX3_run_183 : decode cX3_run 183 = .ok (.iconst 0, 1) := by decide +kernel
theorem dX3_run_184 : decode cX3_run 184 = .ok (.iload 5, 2) := by decide +kernel
theorem dX3_run_186 : decode cX3_run 186 = .ok (.bipush 12, 2) := by decide +kernel
theorem dX3_run_188 : decode cX3_run 188 = .ok (.if_icmp .ne 7, 3) := by decide +kernel
theorem dX3_run_191 : decode cX3_run 191 = .ok (.iconst 1, 1) := by decide +kernel
theorem dX3_run_192 : decode cX3_run 192 = .ok (.goto 4, 3) := by decide +kernel
theorem dX3_run_195 : decode cX3_run 195 = .ok (.iconst 0, 1) := by decide +kernel
theorem dX3_run_196 : decode cX3_run 196 = .ok (.if_icmp .ne 7, 3) := by decide +kernel
theorem dX3_run_199 : decode cX3_run 199 = .ok (.iconst 1, 1) := by decide +kernel
theorem dX3_run_200 : decode cX3_run 200 = .ok (.goto 4, 3) := by decide +kernel
theorem dX3_run_203 : decode cX3_run 203 = .ok (.iconst 0, 1) := by decide +kernel
theorem dX3_run_204 : decode cX3_run 204 = .ok (.istore 7, 2) := by decide +kernel
theorem dX3_run_206 : decode cX3_run 206 = .ok (.iload 7, 2) := by decide +kernel
theorem dX3_run_208 : decode cX3_run 208 = .ok (.ifCond .eq 15, 3) := by decide +kernel
theorem dX3_run_211 : decode cX3_run 211 = .ok (.iload 4, 2) := by decide +kernel
theorem dX3_run_213 : decode cX3_run 213 = .ok (.iload 6, 2) := by decide +kernel
theorem dX3_run_215 : decode cX3_run 215 = .ok (.iconst 1, 1) := by decide +kernel
theorem dX3_run_216 : decode cX3_run 216 = .ok (.isub, 1) := by decide +kernel
theorem dX3_run_217 : decode cX3_run 217 = .ok (.invokestatic 19, 3) := by decide +kernel
theorem dX3_run_220 : decode cX3_run 220 = .ok (.goto 5, 3) := by decide +kernel
theorem dX3_run_223 : decode cX3_run 223 = .ok (.iload 4, 2) := by decide +kernel
theorem dX3_run_225 : decode cX3_run 225 = .ok (.istore 4, 2) := by decide +kernel
theorem dX3_run_227 : decode cX3_run 227 = .ok (.iload 7, 2) := by decide +kernel
theorem dX3_run_229 : decode cX3_run 229 = .ok (.ifCond .eq 7, 3) := by decide +kernel
theorem dX3_run_232 : decode cX3_run 232 = .ok (.iload_n 3, 1) := by decide +kernel
theorem dX3_run_233 : decode cX3_run 233 = .ok (.goto 6, 3) := by decide +kernel
theorem dX3_run_236 : decode cX3_run 236 = .ok (.iload_n 3, 1) := by decide +kernel
theorem dX3_run_237 : decode cX3_run 237 = .ok (.iconst 1, 1) := by decide +kernel
theorem dX3_run_238 : decode cX3_run 238 = .ok (.isub, 1) := by decide +kernel
theorem dX3_run_239 : decode cX3_run 239 = .ok (.istore_n 3, 1) := by decide +kernel
theorem dX3_run_240 : decode cX3_run 240 = .ok (.goto 63, 3) := by decide +kernel
theorem dX3_run_243 : decode cX3_run 243 = .ok (.iload_n 3, 1) := by decide +kernel
theorem dX3_run_244 : decode cX3_run 244 = .ok (.iconst 2, 1) := by decide +kernel
theorem dX3_run_245 : decode cX3_run 245 = .ok (.if_icmp .ge 9, 3) := by decide +kernel
theorem dX3_run_248 : decode cX3_run 248 = .ok (.ldc2_w 25, 3) := by decide +kernel
theorem dX3_run_251 : decode cX3_run 251 = .ok (.goto 24, 3) := by decide +kernel
theorem dX3_run_254 : decode cX3_run 254 = .ok (.iload 5, 2) := by decide +kernel
theorem dX3_run_256 : decode cX3_run 256 = .ok (.aload_n 0, 1) := by decide +kernel
theorem dX3_run_257 : decode cX3_run 257 = .ok (.getfield 15, 3) := by decide +kernel
theorem dX3_run_260 : decode cX3_run 260 = .ok (.iload_n 3, 1) := by decide +kernel
theorem dX3_run_261 : decode cX3_run 261 = .ok (.iconst 2, 1) := by decide +kernel
theorem dX3_run_262 : decode cX3_run 262 = .ok (.isub, 1) := by decide +kernel
theorem dX3_run_263 : decode cX3_run 263 = .ok (.laload, 1) := by decide +kernel
theorem dX3_run_264 : decode cX3_run 264 = .ok (.aload_n 0, 1) := by decide +kernel
theorem dX3_run_265 : decode cX3_run 265 = .ok (.getfield 15, 3) := by decide +kernel
theorem dX3_run_268 : decode cX3_run 268 = .ok (.iload_n 3, 1) := by decide +kernel
theorem dX3_run_269 : decode cX3_run 269 = .ok (.iconst 1, 1) := by decide +kernel
theorem dX3_run_270 : decode cX3_run 270 = .ok (.isub, 1) := by decide +kernel
theorem dX3_run_271 : decode cX3_run 271 = .ok (.laload, 1) := by decide +kernel
theorem dX3_run_272 : decode cX3_run 272 = .ok (.invokestatic 27, 3) := by decide +kernel
theorem dX3_run_275 : decode cX3_run 275 = .ok (.lstore 7, 2) := by decide +kernel
theorem dX3_run_277 : decode cX3_run 277 = .ok (.lload 7, 2) := by decide +kernel
theorem dX3_run_279 : decode cX3_run 279 = .ok (.ldc2_w 25, 3) := by decide +kernel
theorem dX3_run_282 : decode cX3_run 282 = .ok (.lcmp, 1) := by decide +kernel
theorem dX3_run_283 : decode cX3_run 283 = .ok (.ifCond .ne 7, 3) := by decide +kernel
theorem dX3_run_286 : decode cX3_run 286 = .ok (.ldc2_w 25, 3) := by decide +kernel
theorem dX3_run_289 : decode cX3_run 289 = .ok (.lreturn, 1) := by decide +kernel
theorem dX3_run_290 : decode cX3_run 290 = .ok (.iinc 3 (-1), 3) := by decide +kernel
theorem dX3_run_293 : decode cX3_run 293 = .ok (.aload_n 0, 1) := by decide +kernel
theorem dX3_run_294 : decode cX3_run 294 = .ok (.getfield 15, 3) := by decide +kernel
theorem dX3_run_297 : decode cX3_run 297 = .ok (.iload_n 3, 1) := by decide +kernel
theorem dX3_run_298 : decode cX3_run 298 = .ok (.iconst 1, 1) := by decide +kernel
theorem dX3_run_299 : decode cX3_run 299 = .ok (.isub, 1) := by decide +kernel
theorem dX3_run_300 : decode cX3_run 300 = .ok (.lload 7, 2) := by decide +kernel
theorem dX3_run_302 : decode cX3_run 302 = .ok (.lastore, 1) := by decide +kernel
theorem dX3_run_303 : decode cX3_run 303 = .ok (.iinc 4 1, 3) := by decide +kernel
theorem dX3_run_306 : decode cX3_run 306 = .ok (.goto (-297), 3) := by decide +kernel
theorem dX3_run_309 : decode cX3_run 309 = .ok (.ldc2_w 25, 3) := by decide +kernel
theorem dX3_run_312 : decode cX3_run 312 = .ok (.lreturn, 1) := by decide +kernel
theorem dX3_apply_0 : decode cX3_apply 0 = .ok (.iload_n 0, 1) := by decide +kernel
theorem dX3_apply_1 : decode cX3_apply 1 = .ok (.tableswitch 139 3 9 #[43, 51, 59, 67, 87, 107, 123], 43) := by decide +kernel
theorem dX3_apply_44 : decode cX3_apply 44 = .ok (.lload_n 1, 1) := by decide +kernel
theorem dX3_apply_45 : decode cX3_apply 45 = .ok (.lload_n 3, 1) := by decide +kernel
theorem dX3_apply_46 : decode cX3_apply 46 = .ok (.ladd, 1) := by decide +kernel
theorem dX3_apply_47 : decode cX3_apply 47 = .ok (.lstore 5, 2) := by decide +kernel
theorem dX3_apply_49 : decode cX3_apply 49 = .ok (.goto 104, 3) := by decide +kernel
theorem dX3_apply_52 : decode cX3_apply 52 = .ok (.lload_n 1, 1) := by decide +kernel
theorem dX3_apply_53 : decode cX3_apply 53 = .ok (.lload_n 3, 1) := by decide +kernel
theorem dX3_apply_54 : decode cX3_apply 54 = .ok (.lsub, 1) := by decide +kernel
theorem dX3_apply_55 : decode cX3_apply 55 = .ok (.lstore 5, 2) := by decide +kernel
theorem dX3_apply_57 : decode cX3_apply 57 = .ok (.goto 96, 3) := by decide +kernel
theorem dX3_apply_60 : decode cX3_apply 60 = .ok (.lload_n 1, 1) := by decide +kernel
theorem dX3_apply_61 : decode cX3_apply 61 = .ok (.lload_n 3, 1) := by decide +kernel
theorem dX3_apply_62 : decode cX3_apply 62 = .ok (.lmul, 1) := by decide +kernel
theorem dX3_apply_63 : decode cX3_apply 63 = .ok (.lstore 5, 2) := by decide +kernel
theorem dX3_apply_65 : decode cX3_apply 65 = .ok (.goto 88, 3) := by decide +kernel
theorem dX3_apply_68 : decode cX3_apply 68 = .ok (.lload_n 3, 1) := by decide +kernel
theorem dX3_apply_69 : decode cX3_apply 69 = .ok (.lconst 0, 1) := by decide +kernel
theorem dX3_apply_70 : decode cX3_apply 70 = .ok (.lcmp, 1) := by decide +kernel
theorem dX3_apply_71 : decode cX3_apply 71 = .ok (.ifCond .ne 9, 3) := by decide +kernel
theorem dX3_apply_74 : decode cX3_apply 74 = .ok (.ldc2_w 25, 3) := by decide +kernel
theorem dX3_apply_77 : decode cX3_apply 77 = .ok (.goto 6, 3) := by decide +kernel
theorem dX3_apply_80 : decode cX3_apply 80 = .ok (.lload_n 1, 1) := by decide +kernel
theorem dX3_apply_81 : decode cX3_apply 81 = .ok (.lload_n 3, 1) := by decide +kernel
theorem dX3_apply_82 : decode cX3_apply 82 = .ok (.ldiv, 1) := by decide +kernel
theorem dX3_apply_83 : decode cX3_apply 83 = .ok (.lstore 5, 2) := by decide +kernel
theorem dX3_apply_85 : decode cX3_apply 85 = .ok (.goto 68, 3) := by decide +kernel
theorem dX3_apply_88 : decode cX3_apply 88 = .ok (.lload_n 3, 1) := by decide +kernel
theorem dX3_apply_89 : decode cX3_apply 89 = .ok (.lconst 0, 1) := by decide +kernel
theorem dX3_apply_90 : decode cX3_apply 90 = .ok (.lcmp, 1) := by decide +kernel
theorem dX3_apply_91 : decode cX3_apply 91 = .ok (.ifCond .ne 9, 3) := by decide +kernel
theorem dX3_apply_94 : decode cX3_apply 94 = .ok (.ldc2_w 25, 3) := by decide +kernel
theorem dX3_apply_97 : decode cX3_apply 97 = .ok (.goto 6, 3) := by decide +kernel
theorem dX3_apply_100 : decode cX3_apply 100 = .ok (.lload_n 1, 1) := by decide +kernel
theorem dX3_apply_101 : decode cX3_apply 101 = .ok (.lload_n 3, 1) := by decide +kernel
theorem dX3_apply_102 : decode cX3_apply 102 = .ok (.lrem, 1) := by decide +kernel
theorem dX3_apply_103 : decode cX3_apply 103 = .ok (.lstore 5, 2) := by decide +kernel
theorem dX3_apply_105 : decode cX3_apply 105 = .ok (.goto 48, 3) := by decide +kernel
theorem dX3_apply_108 : decode cX3_apply 108 = .ok (.lload_n 1, 1) := by decide +kernel
theorem dX3_apply_109 : decode cX3_apply 109 = .ok (.lload_n 3, 1) := by decide +kernel
theorem dX3_apply_110 : decode cX3_apply 110 = .ok (.lcmp, 1) := by decide +kernel
theorem dX3_apply_111 : decode cX3_apply 111 = .ok (.ifCond .ge 7, 3) := by decide +kernel
theorem dX3_apply_114 : decode cX3_apply 114 = .ok (.lconst 1, 1) := by decide +kernel
theorem dX3_apply_115 : decode cX3_apply 115 = .ok (.goto 4, 3) := by decide +kernel
theorem dX3_apply_118 : decode cX3_apply 118 = .ok (.lconst 0, 1) := by decide +kernel
theorem dX3_apply_119 : decode cX3_apply 119 = .ok (.lstore 5, 2) := by decide +kernel
theorem dX3_apply_121 : decode cX3_apply 121 = .ok (.goto 32, 3) := by decide +kernel
theorem dX3_apply_124 : decode cX3_apply 124 = .ok (.lload_n 1, 1) := by decide +kernel
theorem dX3_apply_125 : decode cX3_apply 125 = .ok (.lload_n 3, 1) := by decide +kernel
theorem dX3_apply_126 : decode cX3_apply 126 = .ok (.lcmp, 1) := by decide +kernel
theorem dX3_apply_127 : decode cX3_apply 127 = .ok (.ifCond .le 7, 3) := by decide +kernel
theorem dX3_apply_130 : decode cX3_apply 130 = .ok (.lconst 1, 1) := by decide +kernel
theorem dX3_apply_131 : decode cX3_apply 131 = .ok (.goto 4, 3) := by decide +kernel
theorem dX3_apply_134 : decode cX3_apply 134 = .ok (.lconst 0, 1) := by decide +kernel
theorem dX3_apply_135 : decode cX3_apply 135 = .ok (.lstore 5, 2) := by decide +kernel
theorem dX3_apply_137 : decode cX3_apply 137 = .ok (.goto 16, 3) := by decide +kernel
theorem dX3_apply_140 : decode cX3_apply 140 = .ok (.lload_n 1, 1) := by decide +kernel
theorem dX3_apply_141 : decode cX3_apply 141 = .ok (.lload_n 3, 1) := by decide +kernel
theorem dX3_apply_142 : decode cX3_apply 142 = .ok (.lcmp, 1) := by decide +kernel
theorem dX3_apply_143 : decode cX3_apply 143 = .ok (.ifCond .ne 7, 3) := by decide +kernel
theorem dX3_apply_146 : decode cX3_apply 146 = .ok (.lconst 1, 1) := by decide +kernel
theorem dX3_apply_147 : decode cX3_apply 147 = .ok (.goto 4, 3) := by decide +kernel
theorem dX3_apply_150 : decode cX3_apply 150 = .ok (.lconst 0, 1) := by decide +kernel
theorem dX3_apply_151 : decode cX3_apply 151 = .ok (.lstore 5, 2) := by decide +kernel
theorem dX3_apply_153 : decode cX3_apply 153 = .ok (.lload 5, 2) := by decide +kernel
theorem dX3_apply_155 : decode cX3_apply 155 = .ok (.ldc2_w 31, 3) := by decide +kernel
theorem dX3_apply_158 : decode cX3_apply 158 = .ok (.lcmp, 1) := by decide +kernel
theorem dX3_apply_159 : decode cX3_apply 159 = .ok (.ifCond .gt 12, 3) := by decide +kernel
theorem dX3_apply_162 : decode cX3_apply 162 = .ok (.lload 5, 2) := by decide +kernel
theorem dX3_apply_164 : decode cX3_apply 164 = .ok (.ldc2_w 33, 3) := by decide +kernel
theorem dX3_apply_167 : decode cX3_apply 167 = .ok (.lcmp, 1) := by decide +kernel
theorem dX3_apply_168 : decode cX3_apply 168 = .ok (.ifCond .ge 9, 3) := by decide +kernel
theorem dX3_apply_171 : decode cX3_apply 171 = .ok (.ldc2_w 25, 3) := by decide +kernel
theorem dX3_apply_174 : decode cX3_apply 174 = .ok (.goto 5, 3) := by decide +kernel
theorem dX3_apply_177 : decode cX3_apply 177 = .ok (.lload 5, 2) := by decide +kernel
theorem dX3_apply_179 : decode cX3_apply 179 = .ok (.lreturn, 1) := by decide +kernel
theorem dX4_init_0 : decode cX4_init 0 = .ok (.aload_n 0, 1) := by decide +kernel
theorem dX4_init_1 : decode cX4_init 1 = .ok (.invokespecial 3, 3) := by decide +kernel
theorem dX4_init_4 : decode cX4_init 4 = .ok (.aload_n 0, 1) := by decide +kernel
theorem dX4_init_5 : decode cX4_init 5 = .ok (.iconst 3, 1) := by decide +kernel
theorem dX4_init_6 : decode cX4_init 6 = .ok (.anewarray 11, 3) := by decide +kernel
theorem dX4_init_9 : decode cX4_init 9 = .ok (.putfield 13, 3) := by decide +kernel
theorem dX4_init_12 : decode cX4_init 12 = .ok (.aload_n 0, 1) := by decide +kernel
theorem dX4_init_13 : decode cX4_init 13 = .ok (.aload_n 1, 1) := by decide +kernel
theorem dX4_init_14 : decode cX4_init 14 = .ok (.putfield 17, 3) := by decide +kernel
theorem dX4_init_17 : decode cX4_init 17 = .ok (.aload_n 0, 1) := by decide +kernel
theorem dX4_init_18 : decode cX4_init 18 = .ok (.aload_n 2, 1) := by decide +kernel
theorem dX4_init_19 : decode cX4_init 19 = .ok (.putfield 21, 3) := by decide +kernel
theorem dX4_init_22 : decode cX4_init 22 = .ok (.return_, 1) := by decide +kernel
theorem dX4_tableTo_0 : decode cX4_tableTo 0 = .ok (.aload_n 0, 1) := by decide +kernel
theorem dX4_tableTo_1 : decode cX4_tableTo 1 = .ok (.getfield 21, 3) := by decide +kernel
theorem dX4_tableTo_4 : decode cX4_tableTo 4 = .ok (.iload_n 2, 1) := by decide +kernel
theorem dX4_tableTo_5 : decode cX4_tableTo 5 = .ok (.invokevirtual 25, 3) := by decide +kernel
theorem dX4_tableTo_8 : decode cX4_tableTo 8 = .ok (.iconst 0, 1) := by decide +kernel
theorem dX4_tableTo_9 : decode cX4_tableTo 9 = .ok (.istore_n 3, 1) := by decide +kernel
theorem dX4_tableTo_10 : decode cX4_tableTo 10 = .ok (.iload_n 3, 1) := by decide +kernel
theorem dX4_tableTo_11 : decode cX4_tableTo 11 = .ok (.iconst 3, 1) := by decide +kernel
theorem dX4_tableTo_12 : decode cX4_tableTo 12 = .ok (.if_icmp .ge 35, 3) := by decide +kernel
theorem dX4_tableTo_15 : decode cX4_tableTo 15 = .ok (.aload_n 0, 1) := by decide +kernel
theorem dX4_tableTo_16 : decode cX4_tableTo 16 = .ok (.getfield 13, 3) := by decide +kernel
theorem dX4_tableTo_19 : decode cX4_tableTo 19 = .ok (.iload_n 3, 1) := by decide +kernel
theorem dX4_tableTo_20 : decode cX4_tableTo 20 = .ok (.aaload, 1) := by decide +kernel
theorem dX4_tableTo_21 : decode cX4_tableTo 21 = .ok (.astore 4, 2) := by decide +kernel
theorem dX4_tableTo_23 : decode cX4_tableTo 23 = .ok (.aload 4, 2) := by decide +kernel
theorem dX4_tableTo_25 : decode cX4_tableTo 25 = .ok (.ifnull 16, 3) := by decide +kernel
theorem dX4_tableTo_28 : decode cX4_tableTo 28 = .ok (.aload 4, 2) := by decide +kernel
theorem dX4_tableTo_30 : decode cX4_tableTo 30 = .ok (.iload_n 1, 1) := by decide +kernel
theorem dX4_tableTo_31 : decode cX4_tableTo 31 = .ok (.iload_n 2, 1) := by decide +kernel
theorem dX4_tableTo_32 : decode cX4_tableTo 32 = .ok (.invokevirtual 31, 3) := by decide +kernel
theorem dX4_tableTo_35 : decode cX4_tableTo 35 = .ok (.ifCond .eq 6, 3) := by decide +kernel
theorem dX4_tableTo_38 : decode cX4_tableTo 38 = .ok (.aload 4, 2) := by decide +kernel
theorem dX4_tableTo_40 : decode cX4_tableTo 40 = .ok (.areturn, 1) := by decide +kernel
theorem dX4_tableTo_41 : decode cX4_tableTo 41 = .ok (.iinc 3 1, 3) := by decide +kernel
theorem dX4_tableTo_44 : decode cX4_tableTo 44 = .ok (.goto (-34), 3) := by decide +kernel
theorem dX4_tableTo_47 : decode cX4_tableTo 47 = .ok (.aload_n 0, 1) := by decide +kernel
theorem dX4_tableTo_48 : decode cX4_tableTo 48 = .ok (.aload_n 0, 1) := by decide +kernel
theorem dX4_tableTo_49 : decode cX4_tableTo 49 = .ok (.getfield 35, 3) := by decide +kernel
theorem dX4_tableTo_52 : decode cX4_tableTo 52 = .ok (.iconst 1, 1) := by decide +kernel
theorem dX4_tableTo_53 : decode cX4_tableTo 53 = .ok (.iadd, 1) := by decide +kernel
theorem dX4_tableTo_54 : decode cX4_tableTo 54 = .ok (.iconst 3, 1) := by decide +kernel
theorem dX4_tableTo_55 : decode cX4_tableTo 55 = .ok (.irem, 1) := by decide +kernel
theorem dX4_tableTo_56 : decode cX4_tableTo 56 = .ok (.putfield 35, 3) := by decide +kernel
theorem dX4_tableTo_59 : decode cX4_tableTo 59 = .ok (.aload_n 0, 1) := by decide +kernel
theorem dX4_tableTo_60 : decode cX4_tableTo 60 = .ok (.getfield 13, 3) := by decide +kernel
theorem dX4_tableTo_63 : decode cX4_tableTo 63 = .ok (.aload_n 0, 1) := by decide +kernel
theorem dX4_tableTo_64 : decode cX4_tableTo 64 = .ok (.getfield 35, 3) := by decide +kernel
theorem dX4_tableTo_67 : decode cX4_tableTo 67 = .ok (.aaload, 1) := by decide +kernel
theorem dX4_tableTo_68 : decode cX4_tableTo 68 = .ok (.ifnonnull 27, 3) := by decide +kernel
theorem dX4_tableTo_71 : decode cX4_tableTo 71 = .ok (.aload_n 0, 1) := by decide +kernel
theorem dX4_tableTo_72 : decode cX4_tableTo 72 = .ok (.getfield 13, 3) := by decide +kernel
theorem dX4_tableTo_75 : decode cX4_tableTo 75 = .ok (.aload_n 0, 1) := by decide +kernel
theorem dX4_tableTo_76 : decode cX4_tableTo 76 = .ok (.getfield 35, 3) := by decide +kernel
theorem dX4_tableTo_79 : decode cX4_tableTo 79 = .ok (.new 11, 3) := by decide +kernel
theorem dX4_tableTo_82 : decode cX4_tableTo 82 = .ok (.dup, 1) := by decide +kernel
theorem dX4_tableTo_83 : decode cX4_tableTo 83 = .ok (.aload_n 0, 1) := by decide +kernel
theorem dX4_tableTo_84 : decode cX4_tableTo 84 = .ok (.getfield 17, 3) := by decide +kernel
theorem dX4_tableTo_87 : decode cX4_tableTo 87 = .ok (.aload_n 0, 1) := by decide +kernel
theorem dX4_tableTo_88 : decode cX4_tableTo 88 = .ok (.getfield 21, 3) := by decide +kernel
theorem dX4_tableTo_91 : decode cX4_tableTo 91 = .ok (.invokespecial 39, 3) := by decide +kernel
theorem dX4_tableTo_94 : decode cX4_tableTo 94 = .ok (.aastore, 1) := by decide +kernel
theorem dX4_tableTo_95 : decode cX4_tableTo 95 = .ok (.aload_n 0, 1) := by decide +kernel
theorem dX4_tableTo_96 : decode cX4_tableTo 96 = .ok (.getfield 13, 3) := by decide +kernel
theorem dX4_tableTo_99 : decode cX4_tableTo 99 = .ok (.aload_n 0, 1) := by decide +kernel
theorem dX4_tableTo_100 : decode cX4_tableTo 100 = .ok (.getfield 35, 3) := by decide +kernel
theorem dX4_tableTo_103 : decode cX4_tableTo 103 = .ok (.aaload, 1) := by decide +kernel
theorem dX4_tableTo_104 : decode cX4_tableTo 104 = .ok (.iload_n 1, 1) := by decide +kernel
theorem dX4_tableTo_105 : decode cX4_tableTo 105 = .ok (.iload_n 2, 1) := by decide +kernel
theorem dX4_tableTo_106 : decode cX4_tableTo 106 = .ok (.invokevirtual 42, 3) := by decide +kernel
theorem dX4_tableTo_109 : decode cX4_tableTo 109 = .ok (.aload_n 0, 1) := by decide +kernel
theorem dX4_tableTo_110 : decode cX4_tableTo 110 = .ok (.getfield 13, 3) := by decide +kernel
theorem dX4_tableTo_113 : decode cX4_tableTo 113 = .ok (.aload_n 0, 1) := by decide +kernel
theorem dX4_tableTo_114 : decode cX4_tableTo 114 = .ok (.getfield 35, 3) := by decide +kernel
theorem dX4_tableTo_117 : decode cX4_tableTo 117 = .ok (.aaload, 1) := by decide +kernel
theorem dX4_tableTo_118 : decode cX4_tableTo 118 = .ok (.areturn, 1) := by decide +kernel
theorem dX4_stepsFrom_0 : decode cX4_stepsFrom 0 = .ok (.aload_n 0, 1) := by decide +kernel
theorem dX4_stepsFrom_1 : decode cX4_stepsFrom 1 = .ok (.iload_n 2, 1) := by decide +kernel
theorem dX4_stepsFrom_2 : decode cX4_stepsFrom 2 = .ok (.iload_n 3, 1) := by decide +kernel
theorem dX4_stepsFrom_3 : decode cX4_stepsFrom 3 = .ok (.invokevirtual 46, 3) := by decide +kernel
theorem dX4_stepsFrom_6 : decode cX4_stepsFrom 6 = .ok (.astore 4, 2) := by decide +kernel
theorem dX4_stepsFrom_8 : decode cX4_stepsFrom 8 = .ok (.aload 4, 2) := by decide +kernel
theorem dX4_stepsFrom_10 : decode cX4_stepsFrom 10 = .ok (.iload_n 1, 1) := by decide +kernel
theorem dX4_stepsFrom_11 : decode cX4_stepsFrom 11 = .ok (.sipush 9331, 3) := by decide +kernel
theorem dX4_stepsFrom_14 : decode cX4_stepsFrom 14 = .ok (.invokevirtual 50, 3) := by decide +kernel
theorem dX4_stepsFrom_17 : decode cX4_stepsFrom 17 = .ok (.aload 4, 2) := by decide +kernel
theorem dX4_stepsFrom_19 : decode cX4_stepsFrom 19 = .ok (.getfield 53, 3) := by decide +kernel
theorem dX4_stepsFrom_22 : decode cX4_stepsFrom 22 = .ok (.iload_n 1, 1) := by decide +kernel
theorem dX4_stepsFrom_23 : decode cX4_stepsFrom 23 = .ok (.saload, 1) := by decide +kernel
theorem dX4_stepsFrom_24 : decode cX4_stepsFrom 24 = .ok (.ireturn, 1) := by decide +kernel
theorem dX4_seekFirst_0 : decode cX4_seekFirst 0 = .ok (.aload_n 0, 1) := by decide +kernel
theorem dX4_seekFirst_1 : decode cX4_seekFirst 1 = .ok (.getfield 57, 3) := by decide +kernel
theorem dX4_seekFirst_4 : decode cX4_seekFirst 4 = .ok (.iload_n 1, 1) := by decide +kernel
theorem dX4_seekFirst_5 : decode cX4_seekFirst 5 = .ok (.if_icmp .ne 18, 3) := by decide +kernel
theorem dX4_seekFirst_8 : decode cX4_seekFirst 8 = .ok (.aload_n 0, 1) := by decide +kernel
theorem dX4_seekFirst_9 : decode cX4_seekFirst 9 = .ok (.getfield 60, 3) := by decide +kernel
theorem dX4_seekFirst_12 : decode cX4_seekFirst 12 = .ok (.aload_n 0, 1) := by decide +kernel
theorem dX4_seekFirst_13 : decode cX4_seekFirst 13 = .ok (.getfield 17, 3) := by decide +kernel
theorem dX4_seekFirst_16 : decode cX4_seekFirst 16 = .ok (.getfield 63, 3) := by decide +kernel
theorem dX4_seekFirst_19 : decode cX4_seekFirst 19 = .ok (.if_icmp .ne 4, 3) := by decide +kernel
theorem dX4_seekFirst_22 : decode cX4_seekFirst 22 = .ok (.return_, 1) := by decide +kernel
theorem dX4_seekFirst_23 : decode cX4_seekFirst 23 = .ok (.aload_n 0, 1) := by decide +kernel
theorem dX4_seekFirst_24 : decode cX4_seekFirst 24 = .ok (.iload_n 1, 1) := by decide +kernel
theorem dX4_seekFirst_25 : decode cX4_seekFirst 25 = .ok (.putfield 57, 3) := by decide +kernel
theorem dX4_seekFirst_28 : decode cX4_seekFirst 28 = .ok (.aload_n 0, 1) := by decide +kernel
theorem dX4_seekFirst_29 : decode cX4_seekFirst 29 = .ok (.aload_n 0, 1) := by decide +kernel
theorem dX4_seekFirst_30 : decode cX4_seekFirst 30 = .ok (.getfield 17, 3) := by decide +kernel
theorem dX4_seekFirst_33 : decode cX4_seekFirst 33 = .ok (.getfield 63, 3) := by decide +kernel
theorem dX4_seekFirst_36 : decode cX4_seekFirst 36 = .ok (.putfield 60, 3) := by decide +kernel
theorem dX4_seekFirst_39 : decode cX4_seekFirst 39 = .ok (.aload_n 0, 1) := by decide +kernel
theorem dX4_seekFirst_40 : decode cX4_seekFirst 40 = .ok (.getfield 66, 3) := by decide +kernel
theorem dX4_seekFirst_43 : decode cX4_seekFirst 43 = .ok (.ifnonnull 12, 3) := by decide +kernel
theorem dX4_seekFirst_46 : decode cX4_seekFirst 46 = .ok (.aload_n 0, 1) := by decide +kernel
theorem dX4_seekFirst_47 : decode cX4_seekFirst 47 = .ok (.sipush 9331, 3) := by decide +kernel
theorem dX4_seekFirst_50 : decode cX4_seekFirst 50 = .ok (.newarray .int, 2) := by decide +kernel
theorem dX4_seekFirst_52 : decode cX4_seekFirst 52 = .ok (.putfield 66, 3) := by decide +kernel
theorem dX4_seekFirst_55 : decode cX4_seekFirst 55 = .ok (.aload_n 0, 1) := by decide +kernel
theorem dX4_seekFirst_56 : decode cX4_seekFirst 56 = .ok (.getfield 66, 3) := by decide +kernel
theorem dX4_seekFirst_59 : decode cX4_seekFirst 59 = .ok (.iconst 0, 1) := by decide +kernel
theorem dX4_seekFirst_60 : decode cX4_seekFirst 60 = .ok (.invokestatic 70, 3) := by decide +kernel
theorem dX4_seekFirst_63 : decode cX4_seekFirst 63 = .ok (.iconst 0, 1) := by decide +kernel
theorem dX4_seekFirst_64 : decode cX4_seekFirst 64 = .ok (.istore_n 2, 1) := by decide +kernel
theorem dX4_seekFirst_65 : decode cX4_seekFirst 65 = .ok (.iload_n 2, 1) := by decide +kernel
theorem dX4_seekFirst_66 : decode cX4_seekFirst 66 = .ok (.aload_n 0, 1) := by decide +kernel
theorem dX4_seekFirst_67 : decode cX4_seekFirst 67 = .ok (.getfield 17, 3) := by decide +kernel
theorem dX4_seekFirst_70 : decode cX4_seekFirst 70 = .ok (.getfield 76, 3) := by decide +kernel
theorem dX4_seekFirst_73 : decode cX4_seekFirst 73 = .ok (.if_icmp .ge 55, 3) := by decide +kernel
theorem dX4_seekFirst_76 : decode cX4_seekFirst 76 = .ok (.iload_n 1, 1) := by decide +kernel
theorem dX4_seekFirst_77 : decode cX4_seekFirst 77 = .ok (.iload_n 2, 1) := by decide +kernel
theorem dX4_seekFirst_78 : decode cX4_seekFirst 78 = .ok (.ishr, 1) := by decide +kernel
theorem dX4_seekFirst_79 : decode cX4_seekFirst 79 = .ok (.iconst 1, 1) := by decide +kernel
theorem dX4_seekFirst_80 : decode cX4_seekFirst 80 = .ok (.iand, 1) := by decide +kernel
theorem dX4_seekFirst_81 : decode cX4_seekFirst 81 = .ok (.iconst 1, 1) := by decide +kernel
theorem dX4_seekFirst_82 : decode cX4_seekFirst 82 = .ok (.if_icmp .ne 40, 3) := by decide +kernel
theorem dX4_seekFirst_85 : decode cX4_seekFirst 85 = .ok (.aload_n 0, 1) := by decide +kernel
theorem dX4_seekFirst_86 : decode cX4_seekFirst 86 = .ok (.aload_n 0, 1) := by decide +kernel
theorem dX4_seekFirst_87 : decode cX4_seekFirst 87 = .ok (.getfield 17, 3) := by decide +kernel
theorem dX4_seekFirst_90 : decode cX4_seekFirst 90 = .ok (.getfield 79, 3) := by decide +kernel
theorem dX4_seekFirst_93 : decode cX4_seekFirst 93 = .ok (.iload_n 2, 1) := by decide +kernel
theorem dX4_seekFirst_94 : decode cX4_seekFirst 94 = .ok (.iaload, 1) := by decide +kernel
theorem dX4_seekFirst_95 : decode cX4_seekFirst 95 = .ok (.aload_n 0, 1) := by decide +kernel
theorem dX4_seekFirst_96 : decode cX4_seekFirst 96 = .ok (.getfield 17, 3) := by decide +kernel
theorem dX4_seekFirst_99 : decode cX4_seekFirst 99 = .ok (.getfield 82, 3) := by decide +kernel
theorem dX4_seekFirst_102 : decode cX4_seekFirst 102 = .ok (.invokevirtual 46, 3) := by decide +kernel
theorem dX4_seekFirst_105 : decode cX4_seekFirst 105 = .ok (.astore_n 3, 1) := by decide +kernel
theorem dX4_seekFirst_106 : decode cX4_seekFirst 106 = .ok (.aload_n 3, 1) := by decide +kernel
theorem dX4_seekFirst_107 : decode cX4_seekFirst 107 = .ok (.iconst (-1), 1) := by decide +kernel
theorem dX4_seekFirst_108 : decode cX4_seekFirst 108 = .ok (.sipush 9331, 3) := by decide +kernel
theorem dX4_seekFirst_111 : decode cX4_seekFirst 111 = .ok (.invokevirtual 50, 3) := by decide +kernel
theorem dX4_seekFirst_114 : decode cX4_seekFirst 114 = .ok (.aload_n 0, 1) := by decide +kernel
theorem dX4_seekFirst_115 : decode cX4_seekFirst 115 = .ok (.aload_n 3, 1) := by decide +kernel
theorem dX4_seekFirst_116 : decode cX4_seekFirst 116 = .ok (.getfield 53, 3) := by decide +kernel
theorem dX4_seekFirst_119 : decode cX4_seekFirst 119 = .ok (.invokevirtual 85, 3) := by decide +kernel
theorem dX4_seekFirst_122 : decode cX4_seekFirst 122 = .ok (.iinc 2 1, 3) := by decide +kernel
theorem dX4_seekFirst_125 : decode cX4_seekFirst 125 = .ok (.goto (-60), 3) := by decide +kernel
theorem dX4_seekFirst_128 : decode cX4_seekFirst 128 = .ok (.aload_n 0, 1) := by decide +kernel
theorem dX4_seekFirst_129 : decode cX4_seekFirst 129 = .ok (.invokevirtual 89, 3) := by decide +kernel
theorem dX4_seekFirst_132 : decode cX4_seekFirst 132 = .ok (.return_, 1) := by decide +kernel
theorem dX4_addFrom_0 : decode cX4_addFrom 0 = .ok (.iconst 0, 1) := by decide +kernel
theorem dX4_addFrom_1 : decode cX4_addFrom 1 = .ok (.istore_n 2, 1) := by decide +kernel
theorem dX4_addFrom_2 : decode cX4_addFrom 2 = .ok (.iload_n 2, 1) := by decide +kernel
theorem dX4_addFrom_3 : decode cX4_addFrom 3 = .ok (.sipush 9331, 3) := by decide +kernel
theorem dX4_addFrom_6 : decode cX4_addFrom 6 = .ok (.if_icmp .ge 46, 3) := by decide +kernel
theorem dX4_addFrom_9 : decode cX4_addFrom 9 = .ok (.aload_n 0, 1) := by decide +kernel
theorem dX4_addFrom_10 : decode cX4_addFrom 10 = .ok (.getfield 66, 3) := by decide +kernel
theorem dX4_addFrom_13 : decode cX4_addFrom 13 = .ok (.iload_n 2, 1) := by decide +kernel
theorem dX4_addFrom_14 : decode cX4_addFrom 14 = .ok (.aload_n 0, 1) := by decide +kernel
theorem dX4_addFrom_15 : decode cX4_addFrom 15 = .ok (.getfield 66, 3) := by decide +kernel
theorem dX4_addFrom_18 : decode cX4_addFrom 18 = .ok (.iload_n 2, 1) := by decide +kernel
theorem dX4_addFrom_19 : decode cX4_addFrom 19 = .ok (.iaload, 1) := by decide +kernel
theorem dX4_addFrom_20 : decode cX4_addFrom 20 = .ok (.iconst (-1), 1) := by decide +kernel
theorem dX4_addFrom_21 : decode cX4_addFrom 21 = .ok (.if_icmp .eq 10, 3) := by decide +kernel
theorem dX4_addFrom_24 : decode cX4_addFrom 24 = .ok (.aload_n 1, 1) := by decide +kernel
theorem dX4_addFrom_25 : decode cX4_addFrom 25 = .ok (.iload_n 2, 1) := by decide +kernel
theorem dX4_addFrom_26 : decode cX4_addFrom 26 = .ok (.saload, 1) := by decide +kernel
theorem dX4_addFrom_27 : decode cX4_addFrom 27 = .ok (.iconst (-1), 1) := by decide +kernel
theorem dX4_addFrom_28 : decode cX4_addFrom 28 = .ok (.if_icmp .ne 7, 3) := by decide +kernel
theorem dX4_addFrom_31 : decode cX4_addFrom 31 = .ok (.iconst (-1), 1) := by decide +kernel
theorem dX4_addFrom_32 : decode cX4_addFrom 32 = .ok (.goto 13, 3) := by decide +kernel
theorem dX4_addFrom_35 : decode cX4_addFrom 35 = .ok (.aload_n 0, 1) := by decide +kernel
theorem dX4_addFrom_36 : decode cX4_addFrom 36 = .ok (.getfield 66, 3) := by decide +kernel
theorem dX4_addFrom_39 : decode cX4_addFrom 39 = .ok (.iload_n 2, 1) := by decide +kernel
theorem dX4_addFrom_40 : decode cX4_addFrom 40 = .ok (.iaload, 1) := by decide +kernel
theorem dX4_addFrom_41 : decode cX4_addFrom 41 = .ok (.aload_n 1, 1) := by decide +kernel
theorem dX4_addFrom_42 : decode cX4_addFrom 42 = .ok (.iload_n 2, 1) := by decide +kernel
theorem dX4_addFrom_43 : decode cX4_addFrom 43 = .ok (.saload, 1) := by decide +kernel
theorem dX4_addFrom_44 : decode cX4_addFrom 44 = .ok (.iadd, 1) := by decide +kernel
theorem dX4_addFrom_45 : decode cX4_addFrom 45 = .ok (.iastore, 1) := by decide +kernel
theorem dX4_addFrom_46 : decode cX4_addFrom 46 = .ok (.iinc 2 1, 3) := by decide +kernel
theorem dX4_addFrom_49 : decode cX4_addFrom 49 = .ok (.goto (-47), 3) := by decide +kernel
theorem dX4_addFrom_52 : decode cX4_addFrom 52 = .ok (.return_, 1) := by decide +kernel
theorem dX4_findLeast_0 : decode cX4_findLeast 0 = .ok (.aload_n 0, 1) := by decide +kernel
theorem dX4_findLeast_1 : decode cX4_findLeast 1 = .ok (.iconst (-1), 1) := by decide +kernel
theorem dX4_findLeast_2 : decode cX4_findLeast 2 = .ok (.putfield 92, 3) := by decide +kernel
theorem dX4_findLeast_5 : decode cX4_findLeast 5 = .ok (.aload_n 0, 1) := by decide +kernel
theorem dX4_findLeast_6 : decode cX4_findLeast 6 = .ok (.iconst 0, 1) := by decide +kernel
theorem dX4_findLeast_7 : decode cX4_findLeast 7 = .ok (.putfield 95, 3) := by decide +kernel
theorem dX4_findLeast_10 : decode cX4_findLeast 10 = .ok (.aload_n 0, 1) := by decide +kernel
theorem dX4_findLeast_11 : decode cX4_findLeast 11 = .ok (.iconst (-1), 1) := by decide +kernel
theorem dX4_findLeast_12 : decode cX4_findLeast 12 = .ok (.putfield 98, 3) := by decide +kernel
theorem dX4_findLeast_15 : decode cX4_findLeast 15 = .ok (.iconst 0, 1) := by decide +kernel
theorem dX4_findLeast_16 : decode cX4_findLeast 16 = .ok (.istore_n 1, 1) := by decide +kernel
theorem dX4_findLeast_17 : decode cX4_findLeast 17 = .ok (.iload_n 1, 1) := by decide +kernel
theorem dX4_findLeast_18 : decode cX4_findLeast 18 = .ok (.sipush 9331, 3) := by decide +kernel
theorem dX4_findLeast_21 : decode cX4_findLeast 21 = .ok (.if_icmp .ge 73, 3) := by decide +kernel
theorem dX4_findLeast_24 : decode cX4_findLeast 24 = .ok (.aload_n 0, 1) := by decide +kernel
theorem dX4_findLeast_25 : decode cX4_findLeast 25 = .ok (.getfield 66, 3) := by decide +kernel
theorem dX4_findLeast_28 : decode cX4_findLeast 28 = .ok (.iload_n 1, 1) := by decide +kernel
theorem dX4_findLeast_29 : decode cX4_findLeast 29 = .ok (.iaload, 1) := by decide +kernel
theorem dX4_findLeast_30 : decode cX4_findLeast 30 = .ok (.istore_n 2, 1) := by decide +kernel
theorem dX4_findLeast_31 : decode cX4_findLeast 31 = .ok (.iload_n 2, 1) := by decide +kernel
theorem dX4_findLeast_32 : decode cX4_findLeast 32 = .ok (.iconst (-1), 1) := by decide +kernel
theorem dX4_findLeast_33 : decode cX4_findLeast 33 = .ok (.if_icmp .eq 55, 3) := by decide +kernel
theorem dX4_findLeast_36 : decode cX4_findLeast 36 = .ok (.aload_n 0, 1) := by decide +kernel
theorem dX4_findLeast_37 : decode cX4_findLeast 37 = .ok (.getfield 92, 3) := by decide +kernel
theorem dX4_findLeast_40 : decode cX4_findLeast 40 = .ok (.iconst (-1), 1) := by decide +kernel
theorem dX4_findLeast_41 : decode cX4_findLeast 41 = .ok (.if_icmp .eq 14, 3) := by decide +kernel
theorem dX4_findLeast_44 : decode cX4_findLeast 44 = .ok (.iload_n 2, 1) := by decide +kernel
theorem dX4_findLeast_45 : decode cX4_findLeast 45 = .ok (.aload_n 0, 1) := by decide +kernel
theorem dX4_findLeast_46 : decode cX4_findLeast 46 = .ok (.getfield 92, 3) := by decide +kernel
theorem dX4_findLeast_49 : decode cX4_findLeast 49 = .ok (.if_icmp .le 6, 3) := by decide +kernel
theorem dX4_findLeast_52 : decode cX4_findLeast 52 = .ok (.goto 36, 3) := by decide +kernel
theorem dX4_findLeast_55 : decode cX4_findLeast 55 = .ok (.iload_n 2, 1) := by decide +kernel
theorem dX4_findLeast_56 : decode cX4_findLeast 56 = .ok (.aload_n 0, 1) := by decide +kernel
theorem dX4_findLeast_57 : decode cX4_findLeast 57 = .ok (.getfield 92, 3) := by decide +kernel
theorem dX4_findLeast_60 : decode cX4_findLeast 60 = .ok (.if_icmp .eq 18, 3) := by decide +kernel
theorem dX4_findLeast_63 : decode cX4_findLeast 63 = .ok (.aload_n 0, 1) := by decide +kernel
theorem dX4_findLeast_64 : decode cX4_findLeast 64 = .ok (.iload_n 2, 1) := by decide +kernel
theorem dX4_findLeast_65 : decode cX4_findLeast 65 = .ok (.putfield 92, 3) := by decide +kernel
theorem dX4_findLeast_68 : decode cX4_findLeast 68 = .ok (.aload_n 0, 1) := by decide +kernel
theorem dX4_findLeast_69 : decode cX4_findLeast 69 = .ok (.iconst 0, 1) := by decide +kernel
theorem dX4_findLeast_70 : decode cX4_findLeast 70 = .ok (.putfield 95, 3) := by decide +kernel
theorem dX4_findLeast_73 : decode cX4_findLeast 73 = .ok (.aload_n 0, 1) := by decide +kernel
theorem dX4_findLeast_74 : decode cX4_findLeast 74 = .ok (.iload_n 1, 1) := by decide +kernel
theorem dX4_findLeast_75 : decode cX4_findLeast 75 = .ok (.putfield 98, 3) := by decide +kernel
theorem dX4_findLeast_78 : decode cX4_findLeast 78 = .ok (.aload_n 0, 1) := by decide +kernel
theorem dX4_findLeast_79 : decode cX4_findLeast 79 = .ok (.dup, 1) := by decide +kernel
theorem dX4_findLeast_80 : decode cX4_findLeast 80 = .ok (.getfield 95, 3) := by decide +kernel
theorem dX4_findLeast_83 : decode cX4_findLeast 83 = .ok (.iconst 1, 1) := by decide +kernel
theorem dX4_findLeast_84 : decode cX4_findLeast 84 = .ok (.iadd, 1) := by decide +kernel
theorem dX4_findLeast_85 : decode cX4_findLeast 85 = .ok (.putfield 95, 3) := by decide +kernel
theorem dX4_findLeast_88 : decode cX4_findLeast 88 = .ok (.iinc 1 1, 3) := by decide +kernel
theorem dX4_findLeast_91 : decode cX4_findLeast 91 = .ok (.goto (-74), 3) := by decide +kernel
theorem dX4_findLeast_94 : decode cX4_findLeast 94 = .ok (.return_, 1) := by decide +kernel
theorem dX5_init_0 : decode cX5_init 0 = .ok (.aload_n 0, 1) := by decide +kernel
theorem dX5_init_1 : decode cX5_init 1 = .ok (.invokespecial 3, 3) := by decide +kernel
theorem dX5_init_4 : decode cX5_init 4 = .ok (.aload_n 0, 1) := by decide +kernel
theorem dX5_init_5 : decode cX5_init 5 = .ok (.bipush 6, 2) := by decide +kernel
theorem dX5_init_7 : decode cX5_init 7 = .ok (.newarray .int, 2) := by decide +kernel
theorem dX5_init_9 : decode cX5_init 9 = .ok (.putfield 9, 3) := by decide +kernel
theorem dX5_init_12 : decode cX5_init 12 = .ok (.aload_n 0, 1) := by decide +kernel
theorem dX5_init_13 : decode cX5_init 13 = .ok (.bipush 36, 2) := by decide +kernel
theorem dX5_init_15 : decode cX5_init 15 = .ok (.newarray .int, 2) := by decide +kernel
theorem dX5_init_17 : decode cX5_init 17 = .ok (.putfield 15, 3) := by decide +kernel
theorem dX5_init_20 : decode cX5_init 20 = .ok (.aload_n 0, 1) := by decide +kernel
theorem dX5_init_21 : decode cX5_init 21 = .ok (.bipush 6, 2) := by decide +kernel
theorem dX5_init_23 : decode cX5_init 23 = .ok (.newarray .int, 2) := by decide +kernel
theorem dX5_init_25 : decode cX5_init 25 = .ok (.putfield 18, 3) := by decide +kernel
theorem dX5_init_28 : decode cX5_init 28 = .ok (.aload_n 0, 1) := by decide +kernel
theorem dX5_init_29 : decode cX5_init 29 = .ok (.bipush 6, 2) := by decide +kernel
theorem dX5_init_31 : decode cX5_init 31 = .ok (.newarray .int, 2) := by decide +kernel
theorem dX5_init_33 : decode cX5_init 33 = .ok (.putfield 21, 3) := by decide +kernel
theorem dX5_init_36 : decode cX5_init 36 = .ok (.aload_n 0, 1) := by decide +kernel
theorem dX5_init_37 : decode cX5_init 37 = .ok (.bipush 64, 2) := by decide +kernel
theorem dX5_init_39 : decode cX5_init 39 = .ok (.newarray .int, 2) := by decide +kernel
theorem dX5_init_41 : decode cX5_init 41 = .ok (.putfield 24, 3) := by decide +kernel
theorem dX5_init_44 : decode cX5_init 44 = .ok (.aload_n 0, 1) := by decide +kernel
theorem dX5_init_45 : decode cX5_init 45 = .ok (.bipush 7, 2) := by decide +kernel
theorem dX5_init_47 : decode cX5_init 47 = .ok (.newarray .int, 2) := by decide +kernel
theorem dX5_init_49 : decode cX5_init 49 = .ok (.putfield 27, 3) := by decide +kernel
theorem dX5_init_52 : decode cX5_init 52 = .ok (.aload_n 0, 1) := by decide +kernel
theorem dX5_init_53 : decode cX5_init 53 = .ok (.bipush 7, 2) := by decide +kernel
theorem dX5_init_55 : decode cX5_init 55 = .ok (.newarray .int, 2) := by decide +kernel
theorem dX5_init_57 : decode cX5_init 57 = .ok (.putfield 30, 3) := by decide +kernel
theorem dX5_init_60 : decode cX5_init 60 = .ok (.return_, 1) := by decide +kernel
theorem dX5_isOf_0 : decode cX5_isOf 0 = .ok (.aload_n 0, 1) := by decide +kernel
theorem dX5_isOf_1 : decode cX5_isOf 1 = .ok (.getfield 33, 3) := by decide +kernel
theorem dX5_isOf_4 : decode cX5_isOf 4 = .ok (.iload_n 1, 1) := by decide +kernel
theorem dX5_isOf_5 : decode cX5_isOf 5 = .ok (.if_icmp .ne 15, 3) := by decide +kernel
theorem dX5_isOf_8 : decode cX5_isOf 8 = .ok (.aload_n 0, 1) := by decide +kernel
theorem dX5_isOf_9 : decode cX5_isOf 9 = .ok (.getfield 37, 3) := by decide +kernel
theorem dX5_isOf_12 : decode cX5_isOf 12 = .ok (.iload_n 2, 1) := by decide +kernel
theorem dX5_isOf_13 : decode cX5_isOf 13 = .ok (.if_icmp .ne 7, 3) := by decide +kernel
theorem dX5_isOf_16 : decode cX5_isOf 16 = .ok (.iconst 1, 1) := by decide +kernel
theorem dX5_isOf_17 : decode cX5_isOf 17 = .ok (.goto 4, 3) := by decide +kernel
theorem dX5_isOf_20 : decode cX5_isOf 20 = .ok (.iconst 0, 1) := by decide +kernel
theorem dX5_isOf_21 : decode cX5_isOf 21 = .ok (.ireturn, 1) := by decide +kernel
theorem dX5_take_0 : decode cX5_take 0 = .ok (.aload_n 0, 1) := by decide +kernel
theorem dX5_take_1 : decode cX5_take 1 = .ok (.iload_n 1, 1) := by decide +kernel
theorem dX5_take_2 : decode cX5_take 2 = .ok (.putfield 33, 3) := by decide +kernel
theorem dX5_take_5 : decode cX5_take 5 = .ok (.aload_n 0, 1) := by decide +kernel
theorem dX5_take_6 : decode cX5_take 6 = .ok (.iload_n 2, 1) := by decide +kernel
theorem dX5_take_7 : decode cX5_take 7 = .ok (.putfield 37, 3) := by decide +kernel
theorem dX5_take_10 : decode cX5_take 10 = .ok (.aload_n 0, 1) := by decide +kernel
theorem dX5_take_11 : decode cX5_take 11 = .ok (.iconst 0, 1) := by decide +kernel
theorem dX5_take_12 : decode cX5_take 12 = .ok (.putfield 40, 3) := by decide +kernel
theorem dX5_take_15 : decode cX5_take 15 = .ok (.iconst 0, 1) := by decide +kernel
theorem dX5_take_16 : decode cX5_take 16 = .ok (.istore_n 3, 1) := by decide +kernel
theorem dX5_take_17 : decode cX5_take 17 = .ok (.iload_n 3, 1) := by decide +kernel
theorem dX5_take_18 : decode cX5_take 18 = .ok (.bipush 12, 2) := by decide +kernel
theorem dX5_take_20 : decode cX5_take 20 = .ok (.if_icmp .ge 50, 3) := by decide +kernel
theorem dX5_take_23 : decode cX5_take 23 = .ok (.aload_n 0, 1) := by decide +kernel
theorem dX5_take_24 : decode cX5_take 24 = .ok (.getfield 40, 3) := by decide +kernel
theorem dX5_take_27 : decode cX5_take 27 = .ok (.bipush 6, 2) := by decide +kernel
theorem dX5_take_29 : decode cX5_take 29 = .ok (.if_icmp .ge 41, 3) := by decide +kernel
theorem dX5_take_32 : decode cX5_take 32 = .ok (.aload_n 0, 1) := by decide +kernel
theorem dX5_take_33 : decode cX5_take 33 = .ok (.getfield 33, 3) := by decide +kernel
theorem dX5_take_36 : decode cX5_take 36 = .ok (.iload_n 3, 1) := by decide +kernel
theorem dX5_take_37 : decode cX5_take 37 = .ok (.ishr, 1) := by decide +kernel
theorem dX5_take_38 : decode cX5_take 38 = .ok (.iconst 1, 1) := by decide +kernel
theorem dX5_take_39 : decode cX5_take 39 = .ok (.iand, 1) := by decide +kernel
theorem dX5_take_40 : decode cX5_take 40 = .ok (.iconst 1, 1) := by decide +kernel
theorem dX5_take_41 : decode cX5_take 41 = .ok (.if_icmp .ne 23, 3) := by decide +kernel
theorem dX5_take_44 : decode cX5_take 44 = .ok (.aload_n 0, 1) := by decide +kernel
theorem dX5_take_45 : decode cX5_take 45 = .ok (.getfield 9, 3) := by decide +kernel
theorem dX5_take_48 : decode cX5_take 48 = .ok (.aload_n 0, 1) := by decide +kernel
theorem dX5_take_49 : decode cX5_take 49 = .ok (.getfield 40, 3) := by decide +kernel
theorem dX5_take_52 : decode cX5_take 52 = .ok (.iload_n 3, 1) := by decide +kernel
theorem dX5_take_53 : decode cX5_take 53 = .ok (.iastore, 1) := by decide +kernel
theorem dX5_take_54 : decode cX5_take 54 = .ok (.aload_n 0, 1) := by decide +kernel
theorem dX5_take_55 : decode cX5_take 55 = .ok (.dup, 1) := by decide +kernel
theorem dX5_take_56 : decode cX5_take 56 = .ok (.getfield 40, 3) := by decide +kernel
theorem dX5_take_59 : decode cX5_take 59 = .ok (.iconst 1, 1) := by decide +kernel
theorem dX5_take_60 : decode cX5_take 60 = .ok (.iadd, 1) := by decide +kernel
theorem dX5_take_61 : decode cX5_take 61 = .ok (.putfield 40, 3) := by decide +kernel
theorem dX5_take_64 : decode cX5_take 64 = .ok (.iinc 3 1, 3) := by decide +kernel
theorem dX5_take_67 : decode cX5_take 67 = .ok (.goto (-50), 3) := by decide +kernel
theorem dX5_take_70 : decode cX5_take 70 = .ok (.return_, 1) := by decide +kernel
theorem dX5_houseAt_0 : decode cX5_houseAt 0 = .ok (.iload_n 1, 1) := by decide +kernel
theorem dX5_houseAt_1 : decode cX5_houseAt 1 = .ok (.ifCond .lt 20, 3) := by decide +kernel
theorem dX5_houseAt_4 : decode cX5_houseAt 4 = .ok (.iload_n 1, 1) := by decide +kernel
theorem dX5_houseAt_5 : decode cX5_houseAt 5 = .ok (.aload_n 0, 1) := by decide +kernel
theorem dX5_houseAt_6 : decode cX5_houseAt 6 = .ok (.getfield 40, 3) := by decide +kernel
theorem dX5_houseAt_9 : decode cX5_houseAt 9 = .ok (.if_icmp .ge 12, 3) := by decide +kernel
theorem dX5_houseAt_12 : decode cX5_houseAt 12 = .ok (.aload_n 0, 1) := by decide +kernel
theorem dX5_houseAt_13 : decode cX5_houseAt 13 = .ok (.getfield 9, 3) := by decide +kernel
theorem dX5_houseAt_16 : decode cX5_houseAt 16 = .ok (.iload_n 1, 1) := by decide +kernel
theorem dX5_houseAt_17 : decode cX5_houseAt 17 = .ok (.iaload, 1) := by decide +kernel
theorem dX5_houseAt_18 : decode cX5_houseAt 18 = .ok (.goto 4, 3) := by decide +kernel
theorem dX5_houseAt_21 : decode cX5_houseAt 21 = .ok (.iconst 0, 1) := by decide +kernel
theorem dX5_houseAt_22 : decode cX5_houseAt 22 = .ok (.ireturn, 1) := by decide +kernel
theorem dX5_setSteps_0 : decode cX5_setSteps 0 = .ok (.iload_n 1, 1) := by decide +kernel
theorem dX5_setSteps_1 : decode cX5_setSteps 1 = .ok (.bipush 6, 2) := by decide +kernel
theorem dX5_setSteps_3 : decode cX5_setSteps 3 = .ok (.imul, 1) := by decide +kernel
theorem dX5_setSteps_4 : decode cX5_setSteps 4 = .ok (.iload_n 2, 1) := by decide +kernel
theorem dX5_setSteps_5 : decode cX5_setSteps 5 = .ok (.iadd, 1) := by decide +kernel
theorem dX5_setSteps_6 : decode cX5_setSteps 6 = .ok (.istore 4, 2) := by decide +kernel
theorem dX5_setSteps_8 : decode cX5_setSteps 8 = .ok (.iload 4, 2) := by decide +kernel
theorem dX5_setSteps_10 : decode cX5_setSteps 10 = .ok (.ifCond .lt 31, 3) := by decide +kernel
theorem dX5_setSteps_13 : decode cX5_setSteps 13 = .ok (.iload 4, 2) := by decide +kernel
theorem dX5_setSteps_15 : decode cX5_setSteps 15 = .ok (.aload_n 0, 1) := by decide +kernel
theorem dX5_setSteps_16 : decode cX5_setSteps 16 = .ok (.getfield 15, 3) := by decide +kernel
theorem dX5_setSteps_19 : decode cX5_setSteps 19 = .ok (.arraylength, 1) := by decide +kernel
theorem dX5_setSteps_20 : decode cX5_setSteps 20 = .ok (.if_icmp .ge 21, 3) := by decide +kernel
theorem dX5_setSteps_23 : decode cX5_setSteps 23 = .ok (.aload_n 0, 1) := by decide +kernel
