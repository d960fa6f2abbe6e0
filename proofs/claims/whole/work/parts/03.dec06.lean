theorem dX12_measures_27 : decode cX12_measures 27 = .ok (.aload_n 0, 1) := by decide +kernel
theorem dX12_measures_28 : decode cX12_measures 28 = .ok (.getfield 77, 3) := by decide +kernel
theorem dX12_measures_31 : decode cX12_measures 31 = .ok (.iload_n 1, 1) := by decide +kernel
theorem dX12_measures_32 : decode cX12_measures 32 = .ok (.iconst 0, 1) := by decide +kernel
theorem dX12_measures_33 : decode cX12_measures 33 = .ok (.iastore, 1) := by decide +kernel
theorem dX12_measures_34 : decode cX12_measures 34 = .ok (.aload_n 0, 1) := by decide +kernel
theorem dX12_measures_35 : decode cX12_measures 35 = .ok (.getfield 80, 3) := by decide +kernel
theorem dX12_measures_38 : decode cX12_measures 38 = .ok (.iconst 0, 1) := by decide +kernel
theorem dX12_measures_39 : decode cX12_measures 39 = .ok (.iload_n 1, 1) := by decide +kernel
theorem dX12_measures_40 : decode cX12_measures 40 = .ok (.iastore, 1) := by decide +kernel
theorem dX12_measures_41 : decode cX12_measures 41 = .ok (.iconst 1, 1) := by decide +kernel
theorem dX12_measures_42 : decode cX12_measures 42 = .ok (.istore_n 2, 1) := by decide +kernel
theorem dX12_measures_43 : decode cX12_measures 43 = .ok (.iconst 0, 1) := by decide +kernel
theorem dX12_measures_44 : decode cX12_measures 44 = .ok (.istore_n 3, 1) := by decide +kernel
theorem dX12_measures_45 : decode cX12_measures 45 = .ok (.iload_n 3, 1) := by decide +kernel
theorem dX12_measures_46 : decode cX12_measures 46 = .ok (.iload_n 2, 1) := by decide +kernel
theorem dX12_measures_47 : decode cX12_measures 47 = .ok (.if_icmp .ge 95, 3) := by decide +kernel
theorem dX12_measures_50 : decode cX12_measures 50 = .ok (.aload_n 0, 1) := by decide +kernel
theorem dX12_measures_51 : decode cX12_measures 51 = .ok (.getfield 80, 3) := by decide +kernel
theorem dX12_measures_54 : decode cX12_measures 54 = .ok (.iload_n 3, 1) := by decide +kernel
theorem dX12_measures_55 : decode cX12_measures 55 = .ok (.iaload, 1) := by decide +kernel
theorem dX12_measures_56 : decode cX12_measures 56 = .ok (.istore 4, 2) := by decide +kernel
theorem dX12_measures_58 : decode cX12_measures 58 = .ok (.iconst 0, 1) := by decide +kernel
theorem dX12_measures_59 : decode cX12_measures 59 = .ok (.istore 5, 2) := by decide +kernel
theorem dX12_measures_61 : decode cX12_measures 61 = .ok (.iload 5, 2) := by decide +kernel
theorem dX12_measures_63 : decode cX12_measures 63 = .ok (.aload_n 0, 1) := by decide +kernel
theorem dX12_measures_64 : decode cX12_measures 64 = .ok (.getfield 71, 3) := by decide +kernel
theorem dX12_measures_67 : decode cX12_measures 67 = .ok (.iload 4, 2) := by decide +kernel
theorem dX12_measures_69 : decode cX12_measures 69 = .ok (.iaload, 1) := by decide +kernel
theorem dX12_measures_70 : decode cX12_measures 70 = .ok (.if_icmp .ge 66, 3) := by decide +kernel
theorem dX12_measures_73 : decode cX12_measures 73 = .ok (.aload_n 0, 1) := by decide +kernel
theorem dX12_measures_74 : decode cX12_measures 74 = .ok (.getfield 68, 3) := by decide +kernel
theorem dX12_measures_77 : decode cX12_measures 77 = .ok (.bipush 46, 2) := by decide +kernel
theorem dX12_measures_79 : decode cX12_measures 79 = .ok (.iload 4, 2) := by decide +kernel
theorem dX12_measures_81 : decode cX12_measures 81 = .ok (.imul, 1) := by decide +kernel
theorem dX12_measures_82 : decode cX12_measures 82 = .ok (.iload 5, 2) := by decide +kernel
theorem dX12_measures_84 : decode cX12_measures 84 = .ok (.iadd, 1) := by decide +kernel
theorem dX12_measures_85 : decode cX12_measures 85 = .ok (.iaload, 1) := by decide +kernel
theorem dX12_measures_86 : decode cX12_measures 86 = .ok (.istore 6, 2) := by decide +kernel
theorem dX12_measures_88 : decode cX12_measures 88 = .ok (.aload_n 0, 1) := by decide +kernel
theorem dX12_measures_89 : decode cX12_measures 89 = .ok (.getfield 77, 3) := by decide +kernel
theorem dX12_measures_92 : decode cX12_measures 92 = .ok (.iload 6, 2) := by decide +kernel
theorem dX12_measures_94 : decode cX12_measures 94 = .ok (.iaload, 1) := by decide +kernel
theorem dX12_measures_95 : decode cX12_measures 95 = .ok (.ldc 229, 2) := by decide +kernel
theorem dX12_measures_97 : decode cX12_measures 97 = .ok (.if_icmp .ge 6, 3) := by decide +kernel
theorem dX12_measures_100 : decode cX12_measures 100 = .ok (.goto 30, 3) := by decide +kernel
theorem dX12_measures_103 : decode cX12_measures 103 = .ok (.aload_n 0, 1) := by decide +kernel
theorem dX12_measures_104 : decode cX12_measures 104 = .ok (.getfield 77, 3) := by decide +kernel
theorem dX12_measures_107 : decode cX12_measures 107 = .ok (.iload 6, 2) := by decide +kernel
theorem dX12_measures_109 : decode cX12_measures 109 = .ok (.aload_n 0, 1) := by decide +kernel
theorem dX12_measures_110 : decode cX12_measures 110 = .ok (.getfield 77, 3) := by decide +kernel
theorem dX12_measures_113 : decode cX12_measures 113 = .ok (.iload 4, 2) := by decide +kernel
theorem dX12_measures_115 : decode cX12_measures 115 = .ok (.iaload, 1) := by decide +kernel
theorem dX12_measures_116 : decode cX12_measures 116 = .ok (.iconst 1, 1) := by decide +kernel
theorem dX12_measures_117 : decode cX12_measures 117 = .ok (.iadd, 1) := by decide +kernel
theorem dX12_measures_118 : decode cX12_measures 118 = .ok (.iastore, 1) := by decide +kernel
theorem dX12_measures_119 : decode cX12_measures 119 = .ok (.aload_n 0, 1) := by decide +kernel
theorem dX12_measures_120 : decode cX12_measures 120 = .ok (.getfield 80, 3) := by decide +kernel
theorem dX12_measures_123 : decode cX12_measures 123 = .ok (.iload_n 2, 1) := by decide +kernel
theorem dX12_measures_124 : decode cX12_measures 124 = .ok (.iload 6, 2) := by decide +kernel
theorem dX12_measures_126 : decode cX12_measures 126 = .ok (.iastore, 1) := by decide +kernel
theorem dX12_measures_127 : decode cX12_measures 127 = .ok (.iinc 2 1, 3) := by decide +kernel
theorem dX12_measures_130 : decode cX12_measures 130 = .ok (.iinc 5 1, 3) := by decide +kernel
theorem dX12_measures_133 : decode cX12_measures 133 = .ok (.goto (-72), 3) := by decide +kernel
theorem dX12_measures_136 : decode cX12_measures 136 = .ok (.iinc 3 1, 3) := by decide +kernel
theorem dX12_measures_139 : decode cX12_measures 139 = .ok (.goto (-94), 3) := by decide +kernel
theorem dX12_measures_142 : decode cX12_measures 142 = .ok (.return_, 1) := by decide +kernel
theorem dX12_steps_0 : decode cX12_steps 0 = .ok (.iload_n 1, 1) := by decide +kernel
theorem dX12_steps_1 : decode cX12_steps 1 = .ok (.invokestatic 184, 3) := by decide +kernel
theorem dX12_steps_4 : decode cX12_steps 4 = .ok (.ifCond .eq 10, 3) := by decide +kernel
theorem dX12_steps_7 : decode cX12_steps 7 = .ok (.iload_n 2, 1) := by decide +kernel
theorem dX12_steps_8 : decode cX12_steps 8 = .ok (.invokestatic 184, 3) := by decide +kernel
theorem dX12_steps_11 : decode cX12_steps 11 = .ok (.ifCond .ne 5, 3) := by decide +kernel
theorem dX12_steps_14 : decode cX12_steps 14 = .ok (.iconst (-1), 1) := by decide +kernel
theorem dX12_steps_15 : decode cX12_steps 15 = .ok (.ireturn, 1) := by decide +kernel
theorem dX12_steps_16 : decode cX12_steps 16 = .ok (.aload_n 0, 1) := by decide +kernel
theorem dX12_steps_17 : decode cX12_steps 17 = .ok (.iload_n 1, 1) := by decide +kernel
theorem dX12_steps_18 : decode cX12_steps 18 = .ok (.invokestatic 362, 3) := by decide +kernel
theorem dX12_steps_21 : decode cX12_steps 21 = .ok (.invokevirtual 368, 3) := by decide +kernel
theorem dX12_steps_24 : decode cX12_steps 24 = .ok (.aload_n 0, 1) := by decide +kernel
theorem dX12_steps_25 : decode cX12_steps 25 = .ok (.getfield 77, 3) := by decide +kernel
theorem dX12_steps_28 : decode cX12_steps 28 = .ok (.iload_n 2, 1) := by decide +kernel
theorem dX12_steps_29 : decode cX12_steps 29 = .ok (.invokestatic 362, 3) := by decide +kernel
theorem dX12_steps_32 : decode cX12_steps 32 = .ok (.iaload, 1) := by decide +kernel
theorem dX12_steps_33 : decode cX12_steps 33 = .ok (.ldc 229, 2) := by decide +kernel
theorem dX12_steps_35 : decode cX12_steps 35 = .ok (.if_icmp .ne 7, 3) := by decide +kernel
theorem dX12_steps_38 : decode cX12_steps 38 = .ok (.iconst (-1), 1) := by decide +kernel
theorem dX12_steps_39 : decode cX12_steps 39 = .ok (.goto 12, 3) := by decide +kernel
theorem dX12_steps_42 : decode cX12_steps 42 = .ok (.aload_n 0, 1) := by decide +kernel
theorem dX12_steps_43 : decode cX12_steps 43 = .ok (.getfield 77, 3) := by decide +kernel
theorem dX12_steps_46 : decode cX12_steps 46 = .ok (.iload_n 2, 1) := by decide +kernel
theorem dX12_steps_47 : decode cX12_steps 47 = .ok (.invokestatic 362, 3) := by decide +kernel
theorem dX12_steps_50 : decode cX12_steps 50 = .ok (.iaload, 1) := by decide +kernel
theorem dX12_steps_51 : decode cX12_steps 51 = .ok (.ireturn, 1) := by decide +kernel
theorem dX12_way_0 : decode cX12_way 0 = .ok (.iload_n 1, 1) := by decide +kernel
theorem dX12_way_1 : decode cX12_way 1 = .ok (.invokestatic 184, 3) := by decide +kernel
theorem dX12_way_4 : decode cX12_way 4 = .ok (.ifCond .eq 14, 3) := by decide +kernel
theorem dX12_way_7 : decode cX12_way 7 = .ok (.iload_n 2, 1) := by decide +kernel
theorem dX12_way_8 : decode cX12_way 8 = .ok (.invokestatic 184, 3) := by decide +kernel
theorem dX12_way_11 : decode cX12_way 11 = .ok (.ifCond .eq 7, 3) := by decide +kernel
theorem dX12_way_14 : decode cX12_way 14 = .ok (.iload_n 3, 1) := by decide +kernel
theorem dX12_way_15 : decode cX12_way 15 = .ok (.ifCond .ge 5, 3) := by decide +kernel
theorem dX12_way_18 : decode cX12_way 18 = .ok (.iconst (-1), 1) := by decide +kernel
theorem dX12_way_19 : decode cX12_way 19 = .ok (.ireturn, 1) := by decide +kernel
theorem dX12_way_20 : decode cX12_way 20 = .ok (.aload_n 0, 1) := by decide +kernel
theorem dX12_way_21 : decode cX12_way 21 = .ok (.iload_n 1, 1) := by decide +kernel
theorem dX12_way_22 : decode cX12_way 22 = .ok (.invokestatic 362, 3) := by decide +kernel
theorem dX12_way_25 : decode cX12_way 25 = .ok (.invokevirtual 368, 3) := by decide +kernel
theorem dX12_way_28 : decode cX12_way 28 = .ok (.aload_n 0, 1) := by decide +kernel
theorem dX12_way_29 : decode cX12_way 29 = .ok (.getfield 77, 3) := by decide +kernel
theorem dX12_way_32 : decode cX12_way 32 = .ok (.iload_n 2, 1) := by decide +kernel
theorem dX12_way_33 : decode cX12_way 33 = .ok (.invokestatic 362, 3) := by decide +kernel
theorem dX12_way_36 : decode cX12_way 36 = .ok (.iaload, 1) := by decide +kernel
theorem dX12_way_37 : decode cX12_way 37 = .ok (.istore 4, 2) := by decide +kernel
theorem dX12_way_39 : decode cX12_way 39 = .ok (.iload 4, 2) := by decide +kernel
theorem dX12_way_41 : decode cX12_way 41 = .ok (.ldc 229, 2) := by decide +kernel
theorem dX12_way_43 : decode cX12_way 43 = .ok (.if_icmp .eq 9, 3) := by decide +kernel
theorem dX12_way_46 : decode cX12_way 46 = .ok (.iload_n 3, 1) := by decide +kernel
theorem dX12_way_47 : decode cX12_way 47 = .ok (.iload 4, 2) := by decide +kernel
theorem dX12_way_49 : decode cX12_way 49 = .ok (.if_icmp .le 5, 3) := by decide +kernel
theorem dX12_way_52 : decode cX12_way 52 = .ok (.iconst (-1), 1) := by decide +kernel
theorem dX12_way_53 : decode cX12_way 53 = .ok (.ireturn, 1) := by decide +kernel
theorem dX12_way_54 : decode cX12_way 54 = .ok (.iconst 0, 1) := by decide +kernel
theorem dX12_way_55 : decode cX12_way 55 = .ok (.istore 5, 2) := by decide +kernel
theorem dX12_way_57 : decode cX12_way 57 = .ok (.iload 5, 2) := by decide +kernel
theorem dX12_way_59 : decode cX12_way 59 = .ok (.sipush 9331, 3) := by decide +kernel
theorem dX12_way_62 : decode cX12_way 62 = .ok (.if_icmp .ge 30, 3) := by decide +kernel
theorem dX12_way_65 : decode cX12_way 65 = .ok (.aload_n 0, 1) := by decide +kernel
theorem dX12_way_66 : decode cX12_way 66 = .ok (.getfield 83, 3) := by decide +kernel
theorem dX12_way_69 : decode cX12_way 69 = .ok (.iload 5, 2) := by decide +kernel
theorem dX12_way_71 : decode cX12_way 71 = .ok (.iload 5, 2) := by decide +kernel
theorem dX12_way_73 : decode cX12_way 73 = .ok (.iload_n 2, 1) := by decide +kernel
theorem dX12_way_74 : decode cX12_way 74 = .ok (.invokestatic 362, 3) := by decide +kernel
theorem dX12_way_77 : decode cX12_way 77 = .ok (.if_icmp .ne 7, 3) := by decide +kernel
theorem dX12_way_80 : decode cX12_way 80 = .ok (.iconst 1, 1) := by decide +kernel
theorem dX12_way_81 : decode cX12_way 81 = .ok (.goto 4, 3) := by decide +kernel
theorem dX12_way_84 : decode cX12_way 84 = .ok (.iconst 0, 1) := by decide +kernel
theorem dX12_way_85 : decode cX12_way 85 = .ok (.bastore, 1) := by decide +kernel
theorem dX12_way_86 : decode cX12_way 86 = .ok (.iinc 5 1, 3) := by decide +kernel
theorem dX12_way_89 : decode cX12_way 89 = .ok (.goto (-32), 3) := by decide +kernel
theorem dX12_way_92 : decode cX12_way 92 = .ok (.iload 4, 2) := by decide +kernel
theorem dX12_way_94 : decode cX12_way 94 = .ok (.iconst 1, 1) := by decide +kernel
theorem dX12_way_95 : decode cX12_way 95 = .ok (.isub, 1) := by decide +kernel
theorem dX12_way_96 : decode cX12_way 96 = .ok (.istore 5, 2) := by decide +kernel
theorem dX12_way_98 : decode cX12_way 98 = .ok (.iload 5, 2) := by decide +kernel
theorem dX12_way_100 : decode cX12_way 100 = .ok (.ifCond .lt 130, 3) := by decide +kernel
theorem dX12_way_103 : decode cX12_way 103 = .ok (.iconst 0, 1) := by decide +kernel
theorem dX12_way_104 : decode cX12_way 104 = .ok (.istore 6, 2) := by decide +kernel
theorem dX12_way_106 : decode cX12_way 106 = .ok (.iload 6, 2) := by decide +kernel
theorem dX12_way_108 : decode cX12_way 108 = .ok (.sipush 9331, 3) := by decide +kernel
theorem dX12_way_111 : decode cX12_way 111 = .ok (.if_icmp .ge 113, 3) := by decide +kernel
theorem dX12_way_114 : decode cX12_way 114 = .ok (.aload_n 0, 1) := by decide +kernel
theorem dX12_way_115 : decode cX12_way 115 = .ok (.getfield 77, 3) := by decide +kernel
theorem dX12_way_118 : decode cX12_way 118 = .ok (.iload 6, 2) := by decide +kernel
theorem dX12_way_120 : decode cX12_way 120 = .ok (.iaload, 1) := by decide +kernel
theorem dX12_way_121 : decode cX12_way 121 = .ok (.iload 5, 2) := by decide +kernel
theorem dX12_way_123 : decode cX12_way 123 = .ok (.if_icmp .eq 6, 3) := by decide +kernel
theorem dX12_way_126 : decode cX12_way 126 = .ok (.goto 92, 3) := by decide +kernel
theorem dX12_way_129 : decode cX12_way 129 = .ok (.iconst 0, 1) := by decide +kernel
theorem dX12_way_130 : decode cX12_way 130 = .ok (.istore 7, 2) := by decide +kernel
theorem dX12_way_132 : decode cX12_way 132 = .ok (.iload 7, 2) := by decide +kernel
theorem dX12_way_134 : decode cX12_way 134 = .ok (.aload_n 0, 1) := by decide +kernel
theorem dX12_way_135 : decode cX12_way 135 = .ok (.getfield 71, 3) := by decide +kernel
theorem dX12_way_138 : decode cX12_way 138 = .ok (.iload 6, 2) := by decide +kernel
theorem dX12_way_140 : decode cX12_way 140 = .ok (.iaload, 1) := by decide +kernel
theorem dX12_way_141 : decode cX12_way 141 = .ok (.if_icmp .ge 77, 3) := by decide +kernel
theorem dX12_way_144 : decode cX12_way 144 = .ok (.aload_n 0, 1) := by decide +kernel
theorem dX12_way_145 : decode cX12_way 145 = .ok (.getfield 83, 3) := by decide +kernel
theorem dX12_way_148 : decode cX12_way 148 = .ok (.iload 6, 2) := by decide +kernel
theorem dX12_way_150 : decode cX12_way 150 = .ok (.aload_n 0, 1) := by decide +kernel
theorem dX12_way_151 : decode cX12_way 151 = .ok (.getfield 83, 3) := by decide +kernel
theorem dX12_way_154 : decode cX12_way 154 = .ok (.iload 6, 2) := by decide +kernel
theorem dX12_way_156 : decode cX12_way 156 = .ok (.baload, 1) := by decide +kernel
theorem dX12_way_157 : decode cX12_way 157 = .ok (.ifCond .ne 49, 3) := by decide +kernel
theorem dX12_way_160 : decode cX12_way 160 = .ok (.aload_n 0, 1) := by decide +kernel
theorem dX12_way_161 : decode cX12_way 161 = .ok (.getfield 83, 3) := by decide +kernel
theorem dX12_way_164 : decode cX12_way 164 = .ok (.aload_n 0, 1) := by decide +kernel
theorem dX12_way_165 : decode cX12_way 165 = .ok (.getfield 68, 3) := by decide +kernel
theorem dX12_way_168 : decode cX12_way 168 = .ok (.bipush 46, 2) := by decide +kernel
theorem dX12_way_170 : decode cX12_way 170 = .ok (.iload 6, 2) := by decide +kernel
theorem dX12_way_172 : decode cX12_way 172 = .ok (.imul, 1) := by decide +kernel
theorem dX12_way_173 : decode cX12_way 173 = .ok (.iload 7, 2) := by decide +kernel
theorem dX12_way_175 : decode cX12_way 175 = .ok (.iadd, 1) := by decide +kernel
theorem dX12_way_176 : decode cX12_way 176 = .ok (.iaload, 1) := by decide +kernel
theorem dX12_way_177 : decode cX12_way 177 = .ok (.baload, 1) := by decide +kernel
theorem dX12_way_178 : decode cX12_way 178 = .ok (.ifCond .eq 32, 3) := by decide +kernel
theorem dX12_way_181 : decode cX12_way 181 = .ok (.aload_n 0, 1) := by decide +kernel
theorem dX12_way_182 : decode cX12_way 182 = .ok (.getfield 77, 3) := by decide +kernel
theorem dX12_way_185 : decode cX12_way 185 = .ok (.aload_n 0, 1) := by decide +kernel
theorem dX12_way_186 : decode cX12_way 186 = .ok (.getfield 68, 3) := by decide +kernel
theorem dX12_way_189 : decode cX12_way 189 = .ok (.bipush 46, 2) := by decide +kernel
theorem dX12_way_191 : decode cX12_way 191 = .ok (.iload 6, 2) := by decide +kernel
theorem dX12_way_193 : decode cX12_way 193 = .ok (.imul, 1) := by decide +kernel
theorem dX12_way_194 : decode cX12_way 194 = .ok (.iload 7, 2) := by decide +kernel
theorem dX12_way_196 : decode cX12_way 196 = .ok (.iadd, 1) := by decide +kernel
theorem dX12_way_197 : decode cX12_way 197 = .ok (.iaload, 1) := by decide +kernel
theorem dX12_way_198 : decode cX12_way 198 = .ok (.iaload, 1) := by decide +kernel
theorem dX12_way_199 : decode cX12_way 199 = .ok (.iload 5, 2) := by decide +kernel
theorem dX12_way_201 : decode cX12_way 201 = .ok (.iconst 1, 1) := by decide +kernel
theorem dX12_way_202 : decode cX12_way 202 = .ok (.iadd, 1) := by decide +kernel
theorem dX12_way_203 : decode cX12_way 203 = .ok (.if_icmp .ne 7, 3) := by decide +kernel
theorem dX12_way_206 : decode cX12_way 206 = .ok (.iconst 1, 1) := by decide +kernel
theorem dX12_way_207 : decode cX12_way 207 = .ok (.goto 4, 3) := by decide +kernel
theorem dX12_way_210 : decode cX12_way 210 = .ok (.iconst 0, 1) := by decide +kernel
theorem dX12_way_211 : decode cX12_way 211 = .ok (.bastore, 1) := by decide +kernel
theorem dX12_way_212 : decode cX12_way 212 = .ok (.iinc 7 1, 3) := by decide +kernel
theorem dX12_way_215 : decode cX12_way 215 = .ok (.goto (-83), 3) := by decide +kernel
theorem dX12_way_218 : decode cX12_way 218 = .ok (.iinc 6 1, 3) := by decide +kernel
theorem dX12_way_221 : decode cX12_way 221 = .ok (.goto (-115), 3) := by decide +kernel
theorem dX12_way_224 : decode cX12_way 224 = .ok (.iinc 5 (-1), 3) := by decide +kernel
theorem dX12_way_227 : decode cX12_way 227 = .ok (.goto (-129), 3) := by decide +kernel
theorem dX12_way_230 : decode cX12_way 230 = .ok (.iload_n 1, 1) := by decide +kernel
theorem dX12_way_231 : decode cX12_way 231 = .ok (.invokestatic 362, 3) := by decide +kernel
theorem dX12_way_234 : decode cX12_way 234 = .ok (.istore 5, 2) := by decide +kernel
theorem dX12_way_236 : decode cX12_way 236 = .ok (.iconst 0, 1) := by decide +kernel
theorem dX12_way_237 : decode cX12_way 237 = .ok (.istore 6, 2) := by decide +kernel
theorem dX12_way_239 : decode cX12_way 239 = .ok (.iload 6, 2) := by decide +kernel
theorem dX12_way_241 : decode cX12_way 241 = .ok (.iload_n 3, 1) := by decide +kernel
theorem dX12_way_242 : decode cX12_way 242 = .ok (.if_icmp .ge 89, 3) := by decide +kernel
theorem dX12_way_245 : decode cX12_way 245 = .ok (.sipush 9331, 3) := by decide +kernel
theorem dX12_way_248 : decode cX12_way 248 = .ok (.istore 7, 2) := by decide +kernel
theorem dX12_way_250 : decode cX12_way 250 = .ok (.iconst 0, 1) := by decide +kernel
theorem dX12_way_251 : decode cX12_way 251 = .ok (.istore 8, 2) := by decide +kernel
theorem dX12_way_253 : decode cX12_way 253 = .ok (.iload 8, 2) := by decide +kernel
theorem dX12_way_255 : decode cX12_way 255 = .ok (.aload_n 0, 1) := by decide +kernel
theorem dX12_way_256 : decode cX12_way 256 = .ok (.getfield 71, 3) := by decide +kernel
theorem dX12_way_259 : decode cX12_way 259 = .ok (.iload 5, 2) := by decide +kernel
theorem dX12_way_261 : decode cX12_way 261 = .ok (.iaload, 1) := by decide +kernel
theorem dX12_way_262 : decode cX12_way 262 = .ok (.if_icmp .ge 59, 3) := by decide +kernel
theorem dX12_way_265 : decode cX12_way 265 = .ok (.aload_n 0, 1) := by decide +kernel
theorem dX12_way_266 : decode cX12_way 266 = .ok (.getfield 68, 3) := by decide +kernel
theorem dX12_way_269 : decode cX12_way 269 = .ok (.bipush 46, 2) := by decide +kernel
theorem dX12_way_271 : decode cX12_way 271 = .ok (.iload 5, 2) := by decide +kernel
theorem dX12_way_273 : decode cX12_way 273 = .ok (.imul, 1) := by decide +kernel
theorem dX12_way_274 : decode cX12_way 274 = .ok (.iload 8, 2) := by decide +kernel
theorem dX12_way_276 : decode cX12_way 276 = .ok (.iadd, 1) := by decide +kernel
theorem dX12_way_277 : decode cX12_way 277 = .ok (.iaload, 1) := by decide +kernel
theorem dX12_way_278 : decode cX12_way 278 = .ok (.istore 9, 2) := by decide +kernel
theorem dX12_way_280 : decode cX12_way 280 = .ok (.aload_n 0, 1) := by decide +kernel
theorem dX12_way_281 : decode cX12_way 281 = .ok (.getfield 83, 3) := by decide +kernel
theorem dX12_way_284 : decode cX12_way 284 = .ok (.iload 9, 2) := by decide +kernel
theorem dX12_way_286 : decode cX12_way 286 = .ok (.baload, 1) := by decide +kernel
theorem dX12_way_287 : decode cX12_way 287 = .ok (.ifCond .eq 28, 3) := by decide +kernel
theorem dX12_way_290 : decode cX12_way 290 = .ok (.aload_n 0, 1) := by decide +kernel
theorem dX12_way_291 : decode cX12_way 291 = .ok (.getfield 77, 3) := by decide +kernel
theorem dX12_way_294 : decode cX12_way 294 = .ok (.iload 9, 2) := by decide +kernel
theorem dX12_way_296 : decode cX12_way 296 = .ok (.iaload, 1) := by decide +kernel
theorem dX12_way_297 : decode cX12_way 297 = .ok (.iload 6, 2) := by decide +kernel
theorem dX12_way_299 : decode cX12_way 299 = .ok (.iconst 1, 1) := by decide +kernel
theorem dX12_way_300 : decode cX12_way 300 = .ok (.iadd, 1) := by decide +kernel
theorem dX12_way_301 : decode cX12_way 301 = .ok (.if_icmp .ne 14, 3) := by decide +kernel
theorem dX12_way_304 : decode cX12_way 304 = .ok (.iload 9, 2) := by decide +kernel
theorem dX12_way_306 : decode cX12_way 306 = .ok (.iload 7, 2) := by decide +kernel
theorem dX12_way_308 : decode cX12_way 308 = .ok (.if_icmp .ge 7, 3) := by decide +kernel
theorem dX12_way_311 : decode cX12_way 311 = .ok (.iload 9, 2) := by decide +kernel
theorem dX12_way_313 : decode cX12_way 313 = .ok (.istore 7, 2) := by decide +kernel
theorem dX12_way_315 : decode cX12_way 315 = .ok (.iinc 8 1, 3) := by decide +kernel
theorem dX12_way_318 : decode cX12_way 318 = .ok (.goto (-65), 3) := by decide +kernel
theorem dX12_way_321 : decode cX12_way 321 = .ok (.iload 7, 2) := by decide +kernel
theorem dX12_way_323 : decode cX12_way 323 = .ok (.istore 5, 2) := by decide +kernel
theorem dX12_way_325 : decode cX12_way 325 = .ok (.iinc 6 1, 3) := by decide +kernel
theorem dX12_way_328 : decode cX12_way 328 = .ok (.goto (-89), 3) := by decide +kernel
theorem dX12_way_331 : decode cX12_way 331 = .ok (.iload 5, 2) := by decide +kernel
theorem dX12_way_333 : decode cX12_way 333 = .ok (.invokestatic 359, 3) := by decide +kernel
theorem dX12_way_336 : decode cX12_way 336 = .ok (.ireturn, 1) := by decide +kernel
theorem dX12_stepsIn_0 : decode cX12_stepsIn 0 = .ok (.iconst 0, 1) := by decide +kernel
theorem dX12_stepsIn_1 : decode cX12_stepsIn 1 = .ok (.istore 4, 2) := by decide +kernel
theorem dX12_stepsIn_3 : decode cX12_stepsIn 3 = .ok (.iload 4, 2) := by decide +kernel
theorem dX12_stepsIn_5 : decode cX12_stepsIn 5 = .ok (.sipush 9331, 3) := by decide +kernel
theorem dX12_stepsIn_8 : decode cX12_stepsIn 8 = .ok (.if_icmp .ge 18, 3) := by decide +kernel
theorem dX12_stepsIn_11 : decode cX12_stepsIn 11 = .ok (.aload_n 0, 1) := by decide +kernel
theorem dX12_stepsIn_12 : decode cX12_stepsIn 12 = .ok (.getfield 77, 3) := by decide +kernel
theorem dX12_stepsIn_15 : decode cX12_stepsIn 15 = .ok (.iload 4, 2) := by decide +kernel
theorem dX12_stepsIn_17 : decode cX12_stepsIn 17 = .ok (.ldc 229, 2) := by decide +kernel
theorem dX12_stepsIn_19 : decode cX12_stepsIn 19 = .ok (.iastore, 1) := by decide +kernel
theorem dX12_stepsIn_20 : decode cX12_stepsIn 20 = .ok (.iinc 4 1, 3) := by decide +kernel
theorem dX12_stepsIn_23 : decode cX12_stepsIn 23 = .ok (.goto (-20), 3) := by decide +kernel
theorem dX12_stepsIn_26 : decode cX12_stepsIn 26 = .ok (.aload_n 0, 1) := by decide +kernel
theorem dX12_stepsIn_27 : decode cX12_stepsIn 27 = .ok (.getfield 77, 3) := by decide +kernel
theorem dX12_stepsIn_30 : decode cX12_stepsIn 30 = .ok (.iload_n 1, 1) := by decide +kernel
theorem dX12_stepsIn_31 : decode cX12_stepsIn 31 = .ok (.invokestatic 362, 3) := by decide +kernel
theorem dX12_stepsIn_34 : decode cX12_stepsIn 34 = .ok (.iconst 0, 1) := by decide +kernel
theorem dX12_stepsIn_35 : decode cX12_stepsIn 35 = .ok (.iastore, 1) := by decide +kernel
theorem dX12_stepsIn_36 : decode cX12_stepsIn 36 = .ok (.aload_n 0, 1) := by decide +kernel
theorem dX12_stepsIn_37 : decode cX12_stepsIn 37 = .ok (.getfield 80, 3) := by decide +kernel
theorem dX12_stepsIn_40 : decode cX12_stepsIn 40 = .ok (.iconst 0, 1) := by decide +kernel
theorem dX12_stepsIn_41 : decode cX12_stepsIn 41 = .ok (.iload_n 1, 1) := by decide +kernel
theorem dX12_stepsIn_42 : decode cX12_stepsIn 42 = .ok (.invokestatic 362, 3) := by decide +kernel
theorem dX12_stepsIn_45 : decode cX12_stepsIn 45 = .ok (.iastore, 1) := by decide +kernel
theorem dX12_stepsIn_46 : decode cX12_stepsIn 46 = .ok (.iconst 1, 1) := by decide +kernel
theorem dX12_stepsIn_47 : decode cX12_stepsIn 47 = .ok (.istore 4, 2) := by decide +kernel
theorem dX12_stepsIn_49 : decode cX12_stepsIn 49 = .ok (.iload_n 2, 1) := by decide +kernel
theorem dX12_stepsIn_50 : decode cX12_stepsIn 50 = .ok (.invokestatic 362, 3) := by decide +kernel
theorem dX12_stepsIn_53 : decode cX12_stepsIn 53 = .ok (.istore 5, 2) := by decide +kernel
theorem dX12_stepsIn_55 : decode cX12_stepsIn 55 = .ok (.iconst 0, 1) := by decide +kernel
theorem dX12_stepsIn_56 : decode cX12_stepsIn 56 = .ok (.istore 6, 2) := by decide +kernel
theorem dX12_stepsIn_58 : decode cX12_stepsIn 58 = .ok (.iload 6, 2) := by decide +kernel
theorem dX12_stepsIn_60 : decode cX12_stepsIn 60 = .ok (.iload 4, 2) := by decide +kernel
theorem dX12_stepsIn_62 : decode cX12_stepsIn 62 = .ok (.if_icmp .ge 115, 3) := by decide +kernel
theorem dX12_stepsIn_65 : decode cX12_stepsIn 65 = .ok (.aload_n 0, 1) := by decide +kernel
theorem dX12_stepsIn_66 : decode cX12_stepsIn 66 = .ok (.getfield 77, 3) := by decide +kernel
theorem dX12_stepsIn_69 : decode cX12_stepsIn 69 = .ok (.iload 5, 2) := by decide +kernel
theorem dX12_stepsIn_71 : decode cX12_stepsIn 71 = .ok (.iaload, 1) := by decide +kernel
theorem dX12_stepsIn_72 : decode cX12_stepsIn 72 = .ok (.ldc 229, 2) := by decide +kernel
theorem dX12_stepsIn_74 : decode cX12_stepsIn 74 = .ok (.if_icmp .ne 103, 3) := by decide +kernel
theorem dX12_stepsIn_77 : decode cX12_stepsIn 77 = .ok (.aload_n 0, 1) := by decide +kernel
theorem dX12_stepsIn_78 : decode cX12_stepsIn 78 = .ok (.aload_n 0, 1) := by decide +kernel
theorem dX12_stepsIn_79 : decode cX12_stepsIn 79 = .ok (.getfield 80, 3) := by decide +kernel
theorem dX12_stepsIn_82 : decode cX12_stepsIn 82 = .ok (.iload 6, 2) := by decide +kernel
theorem dX12_stepsIn_84 : decode cX12_stepsIn 84 = .ok (.iaload, 1) := by decide +kernel
theorem dX12_stepsIn_85 : decode cX12_stepsIn 85 = .ok (.invokestatic 359, 3) := by decide +kernel
theorem dX12_stepsIn_88 : decode cX12_stepsIn 88 = .ok (.iload_n 3, 1) := by decide +kernel
theorem dX12_stepsIn_89 : decode cX12_stepsIn 89 = .ok (.iconst 0, 1) := by decide +kernel
theorem dX12_stepsIn_90 : decode cX12_stepsIn 90 = .ok (.invokevirtual 187, 3) := by decide +kernel
theorem dX12_stepsIn_93 : decode cX12_stepsIn 93 = .ok (.iconst 0, 1) := by decide +kernel
theorem dX12_stepsIn_94 : decode cX12_stepsIn 94 = .ok (.istore 7, 2) := by decide +kernel
theorem dX12_stepsIn_96 : decode cX12_stepsIn 96 = .ok (.iload 7, 2) := by decide +kernel
theorem dX12_stepsIn_98 : decode cX12_stepsIn 98 = .ok (.aload_n 0, 1) := by decide +kernel
theorem dX12_stepsIn_99 : decode cX12_stepsIn 99 = .ok (.getfield 174, 3) := by decide +kernel
theorem dX12_stepsIn_102 : decode cX12_stepsIn 102 = .ok (.if_icmp .ge 69, 3) := by decide +kernel
theorem dX12_stepsIn_105 : decode cX12_stepsIn 105 = .ok (.aload_n 0, 1) := by decide +kernel
theorem dX12_stepsIn_106 : decode cX12_stepsIn 106 = .ok (.getfield 33, 3) := by decide +kernel
theorem dX12_stepsIn_109 : decode cX12_stepsIn 109 = .ok (.iload 7, 2) := by decide +kernel
theorem dX12_stepsIn_111 : decode cX12_stepsIn 111 = .ok (.iaload, 1) := by decide +kernel
theorem dX12_stepsIn_112 : decode cX12_stepsIn 112 = .ok (.invokestatic 362, 3) := by decide +kernel
theorem dX12_stepsIn_115 : decode cX12_stepsIn 115 = .ok (.istore 8, 2) := by decide +kernel
theorem dX12_stepsIn_117 : decode cX12_stepsIn 117 = .ok (.aload_n 0, 1) := by decide +kernel
theorem dX12_stepsIn_118 : decode cX12_stepsIn 118 = .ok (.getfield 77, 3) := by decide +kernel
theorem dX12_stepsIn_121 : decode cX12_stepsIn 121 = .ok (.iload 8, 2) := by decide +kernel
theorem dX12_stepsIn_123 : decode cX12_stepsIn 123 = .ok (.iaload, 1) := by decide +kernel
theorem dX12_stepsIn_124 : decode cX12_stepsIn 124 = .ok (.ldc 229, 2) := by decide +kernel
theorem dX12_stepsIn_126 : decode cX12_stepsIn 126 = .ok (.if_icmp .ge 6, 3) := by decide +kernel
theorem dX12_stepsIn_129 : decode cX12_stepsIn 129 = .ok (.goto 36, 3) := by decide +kernel
theorem dX12_stepsIn_132 : decode cX12_stepsIn 132 = .ok (.aload_n 0, 1) := by decide +kernel
theorem dX12_stepsIn_133 : decode cX12_stepsIn 133 = .ok (.getfield 77, 3) := by decide +kernel
theorem dX12_stepsIn_136 : decode cX12_stepsIn 136 = .ok (.iload 8, 2) := by decide +kernel
theorem dX12_stepsIn_138 : decode cX12_stepsIn 138 = .ok (.aload_n 0, 1) := by decide +kernel
theorem dX12_stepsIn_139 : decode cX12_stepsIn 139 = .ok (.getfield 77, 3) := by decide +kernel
theorem dX12_stepsIn_142 : decode cX12_stepsIn 142 = .ok (.aload_n 0, 1) := by decide +kernel
theorem dX12_stepsIn_143 : decode cX12_stepsIn 143 = .ok (.getfield 80, 3) := by decide +kernel
theorem dX12_stepsIn_146 : decode cX12_stepsIn 146 = .ok (.iload 6, 2) := by decide +kernel
theorem dX12_stepsIn_148 : decode cX12_stepsIn 148 = .ok (.iaload, 1) := by decide +kernel
theorem dX12_stepsIn_149 : decode cX12_stepsIn 149 = .ok (.iaload, 1) := by decide +kernel
theorem dX12_stepsIn_150 : decode cX12_stepsIn 150 = .ok (.iconst 1, 1) := by decide +kernel
theorem dX12_stepsIn_151 : decode cX12_stepsIn 151 = .ok (.iadd, 1) := by decide +kernel
theorem dX12_stepsIn_152 : decode cX12_stepsIn 152 = .ok (.iastore, 1) := by decide +kernel
theorem dX12_stepsIn_153 : decode cX12_stepsIn 153 = .ok (.aload_n 0, 1) := by decide +kernel
theorem dX12_stepsIn_154 : decode cX12_stepsIn 154 = .ok (.getfield 80, 3) := by decide +kernel
theorem dX12_stepsIn_157 : decode cX12_stepsIn 157 = .ok (.iload 4, 2) := by decide +kernel
theorem dX12_stepsIn_159 : decode cX12_stepsIn 159 = .ok (.iload 8, 2) := by decide +kernel
theorem dX12_stepsIn_161 : decode cX12_stepsIn 161 = .ok (.iastore, 1) := by decide +kernel
theorem dX12_stepsIn_162 : decode cX12_stepsIn 162 = .ok (.iinc 4 1, 3) := by decide +kernel
theorem dX12_stepsIn_165 : decode cX12_stepsIn 165 = .ok (.iinc 7 1, 3) := by decide +kernel
theorem dX12_stepsIn_168 : decode cX12_stepsIn 168 = .ok (.goto (-72), 3) := by decide +kernel
theorem dX12_stepsIn_171 : decode cX12_stepsIn 171 = .ok (.iinc 6 1, 3) := by decide +kernel
theorem dX12_stepsIn_174 : decode cX12_stepsIn 174 = .ok (.goto (-116), 3) := by decide +kernel
theorem dX12_stepsIn_177 : decode cX12_stepsIn 177 = .ok (.aload_n 0, 1) := by decide +kernel
theorem dX12_stepsIn_178 : decode cX12_stepsIn 178 = .ok (.getfield 77, 3) := by decide +kernel
theorem dX12_stepsIn_181 : decode cX12_stepsIn 181 = .ok (.iload 5, 2) := by decide +kernel
theorem dX12_stepsIn_183 : decode cX12_stepsIn 183 = .ok (.iaload, 1) := by decide +kernel
theorem dX12_stepsIn_184 : decode cX12_stepsIn 184 = .ok (.ldc 229, 2) := by decide +kernel
theorem dX12_stepsIn_186 : decode cX12_stepsIn 186 = .ok (.if_icmp .ne 7, 3) := by decide +kernel
theorem dX12_stepsIn_189 : decode cX12_stepsIn 189 = .ok (.iconst (-1), 1) := by decide +kernel
theorem dX12_stepsIn_190 : decode cX12_stepsIn 190 = .ok (.goto 10, 3) := by decide +kernel
theorem dX12_stepsIn_193 : decode cX12_stepsIn 193 = .ok (.aload_n 0, 1) := by decide +kernel
theorem dX12_stepsIn_194 : decode cX12_stepsIn 194 = .ok (.getfield 77, 3) := by decide +kernel
theorem dX12_stepsIn_197 : decode cX12_stepsIn 197 = .ok (.iload 5, 2) := by decide +kernel
theorem dX12_stepsIn_199 : decode cX12_stepsIn 199 = .ok (.iaload, 1) := by decide +kernel
theorem dX12_stepsIn_200 : decode cX12_stepsIn 200 = .ok (.ireturn, 1) := by decide +kernel
theorem dX12_daughters_0 : decode cX12_daughters 0 = .ok (.iconst 0, 1) := by decide +kernel
theorem dX12_daughters_1 : decode cX12_daughters 1 = .ok (.istore_n 2, 1) := by decide +kernel
theorem dX12_daughters_2 : decode cX12_daughters 2 = .ok (.iconst 0, 1) := by decide +kernel
theorem dX12_daughters_3 : decode cX12_daughters 3 = .ok (.istore_n 3, 1) := by decide +kernel
theorem dX12_daughters_4 : decode cX12_daughters 4 = .ok (.iload_n 3, 1) := by decide +kernel
theorem dX12_daughters_5 : decode cX12_daughters 5 = .ok (.aload_n 0, 1) := by decide +kernel
theorem dX12_daughters_6 : decode cX12_daughters 6 = .ok (.getfield 20, 3) := by decide +kernel
theorem dX12_daughters_9 : decode cX12_daughters 9 = .ok (.bipush 56, 2) := by decide +kernel
theorem dX12_daughters_11 : decode cX12_daughters 11 = .ok (.iaload, 1) := by decide +kernel
theorem dX12_daughters_12 : decode cX12_daughters 12 = .ok (.if_icmp .ge 27, 3) := by decide +kernel
theorem dX12_daughters_15 : decode cX12_daughters 15 = .ok (.iload_n 2, 1) := by decide +kernel
theorem dX12_daughters_16 : decode cX12_daughters 16 = .ok (.aload_n 0, 1) := by decide +kernel
theorem dX12_daughters_17 : decode cX12_daughters 17 = .ok (.iload_n 3, 1) := by decide +kernel
theorem dX12_daughters_18 : decode cX12_daughters 18 = .ok (.iconst 0, 1) := by decide +kernel
theorem dX12_daughters_19 : decode cX12_daughters 19 = .ok (.invokevirtual 194, 3) := by decide +kernel
theorem dX12_daughters_22 : decode cX12_daughters 22 = .ok (.iload_n 1, 1) := by decide +kernel
theorem dX12_daughters_23 : decode cX12_daughters 23 = .ok (.if_icmp .ne 7, 3) := by decide +kernel
theorem dX12_daughters_26 : decode cX12_daughters 26 = .ok (.iconst 1, 1) := by decide +kernel
theorem dX12_daughters_27 : decode cX12_daughters 27 = .ok (.goto 4, 3) := by decide +kernel
theorem dX12_daughters_30 : decode cX12_daughters 30 = .ok (.iconst 0, 1) := by decide +kernel
theorem dX12_daughters_31 : decode cX12_daughters 31 = .ok (.iadd, 1) := by decide +kernel
theorem dX12_daughters_32 : decode cX12_daughters 32 = .ok (.istore_n 2, 1) := by decide +kernel
theorem dX12_daughters_33 : decode cX12_daughters 33 = .ok (.iinc 3 1, 3) := by decide +kernel
theorem dX12_daughters_36 : decode cX12_daughters 36 = .ok (.goto (-32), 3) := by decide +kernel
theorem dX12_daughters_39 : decode cX12_daughters 39 = .ok (.iload_n 2, 1) := by decide +kernel
theorem dX12_daughters_40 : decode cX12_daughters 40 = .ok (.ireturn, 1) := by decide +kernel
theorem dX12_changedBack_0 : decode cX12_changedBack 0 = .ok (.iconst 1, 1) := by decide +kernel
theorem dX12_changedBack_1 : decode cX12_changedBack 1 = .ok (.istore_n 2, 1) := by decide +kernel
theorem dX12_changedBack_2 : decode cX12_changedBack 2 = .ok (.aload_n 0, 1) := by decide +kernel
theorem dX12_changedBack_3 : decode cX12_changedBack 3 = .ok (.iload_n 1, 1) := by decide +kernel
theorem dX12_changedBack_4 : decode cX12_changedBack 4 = .ok (.iconst 0, 1) := by decide +kernel
theorem dX12_changedBack_5 : decode cX12_changedBack 5 = .ok (.invokevirtual 194, 3) := by decide +kernel
theorem dX12_changedBack_8 : decode cX12_changedBack 8 = .ok (.istore_n 3, 1) := by decide +kernel
theorem dX12_changedBack_9 : decode cX12_changedBack 9 = .ok (.iload_n 3, 1) := by decide +kernel
theorem dX12_changedBack_10 : decode cX12_changedBack 10 = .ok (.iconst (-1), 1) := by decide +kernel
theorem dX12_changedBack_11 : decode cX12_changedBack 11 = .ok (.if_icmp .eq 33, 3) := by decide +kernel
theorem dX12_changedBack_14 : decode cX12_changedBack 14 = .ok (.aload_n 0, 1) := by decide +kernel
theorem dX12_changedBack_15 : decode cX12_changedBack 15 = .ok (.iload_n 3, 1) := by decide +kernel
theorem dX12_changedBack_16 : decode cX12_changedBack 16 = .ok (.iconst 2, 1) := by decide +kernel
theorem dX12_changedBack_17 : decode cX12_changedBack 17 = .ok (.invokevirtual 194, 3) := by decide +kernel
theorem dX12_changedBack_20 : decode cX12_changedBack 20 = .ok (.aload_n 0, 1) := by decide +kernel
theorem dX12_changedBack_21 : decode cX12_changedBack 21 = .ok (.iload_n 1, 1) := by decide +kernel
theorem dX12_changedBack_22 : decode cX12_changedBack 22 = .ok (.iconst 2, 1) := by decide +kernel
theorem dX12_changedBack_23 : decode cX12_changedBack 23 = .ok (.invokevirtual 194, 3) := by decide +kernel
theorem dX12_changedBack_26 : decode cX12_changedBack 26 = .ok (.if_icmp .ne 5, 3) := by decide +kernel
theorem dX12_changedBack_29 : decode cX12_changedBack 29 = .ok (.iload_n 2, 1) := by decide +kernel
theorem dX12_changedBack_30 : decode cX12_changedBack 30 = .ok (.ireturn, 1) := by decide +kernel
theorem dX12_changedBack_31 : decode cX12_changedBack 31 = .ok (.iinc 2 1, 3) := by decide +kernel
theorem dX12_changedBack_34 : decode cX12_changedBack 34 = .ok (.aload_n 0, 1) := by decide +kernel
theorem dX12_changedBack_35 : decode cX12_changedBack 35 = .ok (.iload_n 3, 1) := by decide +kernel
theorem dX12_changedBack_36 : decode cX12_changedBack 36 = .ok (.iconst 0, 1) := by decide +kernel
theorem dX12_changedBack_37 : decode cX12_changedBack 37 = .ok (.invokevirtual 194, 3) := by decide +kernel
theorem dX12_changedBack_40 : decode cX12_changedBack 40 = .ok (.istore_n 3, 1) := by decide +kernel
theorem dX12_changedBack_41 : decode cX12_changedBack 41 = .ok (.goto (-32), 3) := by decide +kernel
theorem dX12_changedBack_44 : decode cX12_changedBack 44 = .ok (.iconst (-1), 1) := by decide +kernel
theorem dX12_changedBack_45 : decode cX12_changedBack 45 = .ok (.ireturn, 1) := by decide +kernel
theorem dX12_at_0 : decode cX12_at 0 = .ok (.aload_n 0, 1) := by decide +kernel
theorem dX12_at_1 : decode cX12_at 1 = .ok (.iload_n 1, 1) := by decide +kernel
theorem dX12_at_2 : decode cX12_at 2 = .ok (.invokevirtual 191, 3) := by decide +kernel
theorem dX12_at_5 : decode cX12_at 5 = .ok (.ifCond .ne 5, 3) := by decide +kernel
theorem dX12_at_8 : decode cX12_at 8 = .ok (.iconst (-1), 1) := by decide +kernel
theorem dX12_at_9 : decode cX12_at 9 = .ok (.ireturn, 1) := by decide +kernel
theorem dX12_at_10 : decode cX12_at 10 = .ok (.iload_n 2, 1) := by decide +kernel
theorem dX12_at_11 : decode cX12_at 11 = .ok (.tableswitch 98 0 5 #[37, 37, 37, 44, 50, 92], 37) := by decide +kernel
theorem dX12_at_48 : decode cX12_at 48 = .ok (.aload_n 0, 1) := by decide +kernel
theorem dX12_at_49 : decode cX12_at 49 = .ok (.iload_n 1, 1) := by decide +kernel
theorem dX12_at_50 : decode cX12_at 50 = .ok (.iload_n 2, 1) := by decide +kernel
theorem dX12_at_51 : decode cX12_at 51 = .ok (.invokevirtual 194, 3) := by decide +kernel
theorem dX12_at_54 : decode cX12_at 54 = .ok (.ireturn, 1) := by decide +kernel
theorem dX12_at_55 : decode cX12_at 55 = .ok (.aload_n 0, 1) := by decide +kernel
theorem dX12_at_56 : decode cX12_at 56 = .ok (.iload_n 1, 1) := by decide +kernel
theorem dX12_at_57 : decode cX12_at 57 = .ok (.invokevirtual 371, 3) := by decide +kernel
theorem dX12_at_60 : decode cX12_at 60 = .ok (.ireturn, 1) := by decide +kernel
theorem dX12_at_61 : decode cX12_at 61 = .ok (.aload_n 0, 1) := by decide +kernel
theorem dX12_at_62 : decode cX12_at 62 = .ok (.iload_n 1, 1) := by decide +kernel
theorem dX12_at_63 : decode cX12_at 63 = .ok (.iconst 0, 1) := by decide +kernel
theorem dX12_at_64 : decode cX12_at 64 = .ok (.invokevirtual 194, 3) := by decide +kernel
theorem dX12_at_67 : decode cX12_at 67 = .ok (.iconst (-1), 1) := by decide +kernel
theorem dX12_at_68 : decode cX12_at 68 = .ok (.if_icmp .ne 7, 3) := by decide +kernel
theorem dX12_at_71 : decode cX12_at 71 = .ok (.iconst (-1), 1) := by decide +kernel
theorem dX12_at_72 : decode cX12_at 72 = .ok (.goto 30, 3) := by decide +kernel
theorem dX12_at_75 : decode cX12_at 75 = .ok (.aload_n 0, 1) := by decide +kernel
theorem dX12_at_76 : decode cX12_at 76 = .ok (.aload_n 0, 1) := by decide +kernel
theorem dX12_at_77 : decode cX12_at 77 = .ok (.aload_n 0, 1) := by decide +kernel
theorem dX12_at_78 : decode cX12_at 78 = .ok (.iload_n 1, 1) := by decide +kernel
theorem dX12_at_79 : decode cX12_at 79 = .ok (.iconst 0, 1) := by decide +kernel
theorem dX12_at_80 : decode cX12_at 80 = .ok (.invokevirtual 194, 3) := by decide +kernel
theorem dX12_at_83 : decode cX12_at 83 = .ok (.iconst 2, 1) := by decide +kernel
theorem dX12_at_84 : decode cX12_at 84 = .ok (.invokevirtual 194, 3) := by decide +kernel
theorem dX12_at_87 : decode cX12_at 87 = .ok (.aload_n 0, 1) := by decide +kernel
theorem dX12_at_88 : decode cX12_at 88 = .ok (.iload_n 1, 1) := by decide +kernel
theorem dX12_at_89 : decode cX12_at 89 = .ok (.iconst 2, 1) := by decide +kernel
theorem dX12_at_90 : decode cX12_at 90 = .ok (.invokevirtual 194, 3) := by decide +kernel
theorem dX12_at_93 : decode cX12_at 93 = .ok (.aload_n 0, 1) := by decide +kernel
theorem dX12_at_94 : decode cX12_at 94 = .ok (.iload_n 1, 1) := by decide +kernel
theorem dX12_at_95 : decode cX12_at 95 = .ok (.iconst 1, 1) := by decide +kernel
theorem dX12_at_96 : decode cX12_at 96 = .ok (.invokevirtual 194, 3) := by decide +kernel
theorem dX12_at_99 : decode cX12_at 99 = .ok (.invokevirtual 374, 3) := by decide +kernel
theorem dX12_at_102 : decode cX12_at 102 = .ok (.ireturn, 1) := by decide +kernel
theorem dX12_at_103 : decode cX12_at 103 = .ok (.aload_n 0, 1) := by decide +kernel
theorem dX12_at_104 : decode cX12_at 104 = .ok (.iload_n 1, 1) := by decide +kernel
theorem dX12_at_105 : decode cX12_at 105 = .ok (.invokevirtual 377, 3) := by decide +kernel
theorem dX12_at_108 : decode cX12_at 108 = .ok (.ireturn, 1) := by decide +kernel
theorem dX12_at_109 : decode cX12_at 109 = .ok (.iconst (-1), 1) := by decide +kernel
theorem dX12_at_110 : decode cX12_at 110 = .ok (.ireturn, 1) := by decide +kernel
theorem dX12_leadsTo_0 : decode cX12_leadsTo 0 = .ok (.aload_n 0, 1) := by decide +kernel
theorem dX12_leadsTo_1 : decode cX12_leadsTo 1 = .ok (.iload_n 1, 1) := by decide +kernel
theorem dX12_leadsTo_2 : decode cX12_leadsTo 2 = .ok (.iload_n 3, 1) := by decide +kernel
theorem dX12_leadsTo_3 : decode cX12_leadsTo 3 = .ok (.iconst 0, 1) := by decide +kernel
theorem dX12_leadsTo_4 : decode cX12_leadsTo 4 = .ok (.invokevirtual 187, 3) := by decide +kernel
theorem dX12_leadsTo_7 : decode cX12_leadsTo 7 = .ok (.iconst 0, 1) := by decide +kernel
theorem dX12_leadsTo_8 : decode cX12_leadsTo 8 = .ok (.istore 4, 2) := by decide +kernel
theorem dX12_leadsTo_10 : decode cX12_leadsTo 10 = .ok (.iload 4, 2) := by decide +kernel
theorem dX12_leadsTo_12 : decode cX12_leadsTo 12 = .ok (.aload_n 0, 1) := by decide +kernel
theorem dX12_leadsTo_13 : decode cX12_leadsTo 13 = .ok (.getfield 174, 3) := by decide +kernel
theorem dX12_leadsTo_16 : decode cX12_leadsTo 16 = .ok (.if_icmp .ge 22, 3) := by decide +kernel
theorem dX12_leadsTo_19 : decode cX12_leadsTo 19 = .ok (.aload_n 0, 1) := by decide +kernel
theorem dX12_leadsTo_20 : decode cX12_leadsTo 20 = .ok (.getfield 33, 3) := by decide +kernel
theorem dX12_leadsTo_23 : decode cX12_leadsTo 23 = .ok (.iload 4, 2) := by decide +kernel
theorem dX12_leadsTo_25 : decode cX12_leadsTo 25 = .ok (.iaload, 1) := by decide +kernel
theorem dX12_leadsTo_26 : decode cX12_leadsTo 26 = .ok (.iload_n 2, 1) := by decide +kernel
theorem dX12_leadsTo_27 : decode cX12_leadsTo 27 = .ok (.if_icmp .ne 5, 3) := by decide +kernel
theorem dX12_leadsTo_30 : decode cX12_leadsTo 30 = .ok (.iconst 1, 1) := by decide +kernel
theorem dX12_leadsTo_31 : decode cX12_leadsTo 31 = .ok (.ireturn, 1) := by decide +kernel
theorem dX12_leadsTo_32 : decode cX12_leadsTo 32 = .ok (.iinc 4 1, 3) := by decide +kernel
theorem dX12_leadsTo_35 : decode cX12_leadsTo 35 = .ok (.goto (-25), 3) := by decide +kernel
theorem dX12_leadsTo_38 : decode cX12_leadsTo 38 = .ok (.iconst 0, 1) := by decide +kernel
theorem dX12_leadsTo_39 : decode cX12_leadsTo 39 = .ok (.ireturn, 1) := by decide +kernel
theorem dX12_between_0 : decode cX12_between 0 = .ok (.aload_n 0, 1) := by decide +kernel
theorem dX12_between_1 : decode cX12_between 1 = .ok (.iload_n 1, 1) := by decide +kernel
theorem dX12_between_2 : decode cX12_between 2 = .ok (.invokevirtual 191, 3) := by decide +kernel
theorem dX12_between_5 : decode cX12_between 5 = .ok (.ifCond .eq 13, 3) := by decide +kernel
theorem dX12_between_8 : decode cX12_between 8 = .ok (.aload_n 0, 1) := by decide +kernel
theorem dX12_between_9 : decode cX12_between 9 = .ok (.iload_n 1, 1) := by decide +kernel
theorem dX12_between_10 : decode cX12_between 10 = .ok (.iconst 0, 1) := by decide +kernel
theorem dX12_between_11 : decode cX12_between 11 = .ok (.invokevirtual 194, 3) := by decide +kernel
theorem dX12_between_14 : decode cX12_between 14 = .ok (.iconst (-1), 1) := by decide +kernel
theorem dX12_between_15 : decode cX12_between 15 = .ok (.if_icmp .ne 5, 3) := by decide +kernel
theorem dX12_between_18 : decode cX12_between 18 = .ok (.iconst (-1), 1) := by decide +kernel
theorem dX12_between_19 : decode cX12_between 19 = .ok (.ireturn, 1) := by decide +kernel
theorem dX12_between_20 : decode cX12_between 20 = .ok (.aload_n 0, 1) := by decide +kernel
theorem dX12_between_21 : decode cX12_between 21 = .ok (.aload_n 0, 1) := by decide +kernel
theorem dX12_between_22 : decode cX12_between 22 = .ok (.aload_n 0, 1) := by decide +kernel
theorem dX12_between_23 : decode cX12_between 23 = .ok (.iload_n 1, 1) := by decide +kernel
theorem dX12_between_24 : decode cX12_between 24 = .ok (.iconst 0, 1) := by decide +kernel
theorem dX12_between_25 : decode cX12_between 25 = .ok (.invokevirtual 194, 3) := by decide +kernel
theorem dX12_between_28 : decode cX12_between 28 = .ok (.iconst 2, 1) := by decide +kernel
theorem dX12_between_29 : decode cX12_between 29 = .ok (.invokevirtual 194, 3) := by decide +kernel
theorem dX12_between_32 : decode cX12_between 32 = .ok (.aload_n 0, 1) := by decide +kernel
theorem dX12_between_33 : decode cX12_between 33 = .ok (.iload_n 1, 1) := by decide +kernel
theorem dX12_between_34 : decode cX12_between 34 = .ok (.iconst 1, 1) := by decide +kernel
theorem dX12_between_35 : decode cX12_between 35 = .ok (.invokevirtual 194, 3) := by decide +kernel
theorem dX12_between_38 : decode cX12_between 38 = .ok (.iconst 0, 1) := by decide +kernel
theorem dX12_between_39 : decode cX12_between 39 = .ok (.invokevirtual 187, 3) := by decide +kernel
theorem dX12_between_42 : decode cX12_between 42 = .ok (.iconst 0, 1) := by decide +kernel
theorem dX12_between_43 : decode cX12_between 43 = .ok (.istore_n 3, 1) := by decide +kernel
theorem dX12_between_44 : decode cX12_between 44 = .ok (.iconst 0, 1) := by decide +kernel
theorem dX12_between_45 : decode cX12_between 45 = .ok (.istore 4, 2) := by decide +kernel
theorem dX12_between_47 : decode cX12_between 47 = .ok (.iload 4, 2) := by decide +kernel
theorem dX12_between_49 : decode cX12_between 49 = .ok (.aload_n 0, 1) := by decide +kernel
theorem dX12_between_50 : decode cX12_between 50 = .ok (.getfield 174, 3) := by decide +kernel
theorem dX12_between_53 : decode cX12_between 53 = .ok (.if_icmp .ge 130, 3) := by decide +kernel
theorem dX12_between_56 : decode cX12_between 56 = .ok (.iload_n 3, 1) := by decide +kernel
theorem dX12_between_57 : decode cX12_between 57 = .ok (.istore 5, 2) := by decide +kernel
theorem dX12_between_59 : decode cX12_between 59 = .ok (.iconst 1, 1) := by decide +kernel
theorem dX12_between_60 : decode cX12_between 60 = .ok (.istore 6, 2) := by decide +kernel
theorem dX12_between_62 : decode cX12_between 62 = .ok (.iconst 0, 1) := by decide +kernel
theorem dX12_between_63 : decode cX12_between 63 = .ok (.istore 7, 2) := by decide +kernel
theorem dX12_between_65 : decode cX12_between 65 = .ok (.iload 7, 2) := by decide +kernel
theorem dX12_between_67 : decode cX12_between 67 = .ok (.iload_n 3, 1) := by decide +kernel
theorem dX12_between_68 : decode cX12_between 68 = .ok (.if_icmp .ge 38, 3) := by decide +kernel
theorem dX12_between_71 : decode cX12_between 71 = .ok (.iload 6, 2) := by decide +kernel
theorem dX12_between_73 : decode cX12_between 73 = .ok (.ifCond .eq 24, 3) := by decide +kernel
theorem dX12_between_76 : decode cX12_between 76 = .ok (.aload_n 0, 1) := by decide +kernel
theorem dX12_between_77 : decode cX12_between 77 = .ok (.getfield 86, 3) := by decide +kernel
theorem dX12_between_80 : decode cX12_between 80 = .ok (.iload 7, 2) := by decide +kernel
theorem dX12_between_82 : decode cX12_between 82 = .ok (.iaload, 1) := by decide +kernel
theorem dX12_between_83 : decode cX12_between 83 = .ok (.aload_n 0, 1) := by decide +kernel
theorem dX12_between_84 : decode cX12_between 84 = .ok (.getfield 33, 3) := by decide +kernel
theorem dX12_between_87 : decode cX12_between 87 = .ok (.iload 4, 2) := by decide +kernel
theorem dX12_between_89 : decode cX12_between 89 = .ok (.iaload, 1) := by decide +kernel
theorem dX12_between_90 : decode cX12_between 90 = .ok (.if_icmp .eq 7, 3) := by decide +kernel
theorem dX12_between_93 : decode cX12_between 93 = .ok (.iconst 1, 1) := by decide +kernel
theorem dX12_between_94 : decode cX12_between 94 = .ok (.goto 4, 3) := by decide +kernel
theorem dX12_between_97 : decode cX12_between 97 = .ok (.iconst 0, 1) := by decide +kernel
theorem dX12_between_98 : decode cX12_between 98 = .ok (.istore 6, 2) := by decide +kernel
theorem dX12_between_100 : decode cX12_between 100 = .ok (.iinc 7 1, 3) := by decide +kernel
theorem dX12_between_103 : decode cX12_between 103 = .ok (.goto (-38), 3) := by decide +kernel
theorem dX12_between_106 : decode cX12_between 106 = .ok (.iload 6, 2) := by decide +kernel
theorem dX12_between_108 : decode cX12_between 108 = .ok (.ifCond .ne 6, 3) := by decide +kernel
theorem dX12_between_111 : decode cX12_between 111 = .ok (.goto 66, 3) := by decide +kernel
theorem dX12_between_114 : decode cX12_between 114 = .ok (.iload 5, 2) := by decide +kernel
theorem dX12_between_116 : decode cX12_between 116 = .ok (.ifCond .le 44, 3) := by decide +kernel
theorem dX12_between_119 : decode cX12_between 119 = .ok (.aload_n 0, 1) := by decide +kernel
theorem dX12_between_120 : decode cX12_between 120 = .ok (.getfield 86, 3) := by decide +kernel
theorem dX12_between_123 : decode cX12_between 123 = .ok (.iload 5, 2) := by decide +kernel
theorem dX12_between_125 : decode cX12_between 125 = .ok (.iconst 1, 1) := by decide +kernel
theorem dX12_between_126 : decode cX12_between 126 = .ok (.isub, 1) := by decide +kernel
theorem dX12_between_127 : decode cX12_between 127 = .ok (.iaload, 1) := by decide +kernel
theorem dX12_between_128 : decode cX12_between 128 = .ok (.aload_n 0, 1) := by decide +kernel
theorem dX12_between_129 : decode cX12_between 129 = .ok (.getfield 33, 3) := by decide +kernel
theorem dX12_between_132 : decode cX12_between 132 = .ok (.iload 4, 2) := by decide +kernel
theorem dX12_between_134 : decode cX12_between 134 = .ok (.iaload, 1) := by decide +kernel
theorem dX12_between_135 : decode cX12_between 135 = .ok (.if_icmp .le 25, 3) := by decide +kernel
theorem dX12_between_138 : decode cX12_between 138 = .ok (.aload_n 0, 1) := by decide +kernel
theorem dX12_between_139 : decode cX12_between 139 = .ok (.getfield 86, 3) := by decide +kernel
theorem dX12_between_142 : decode cX12_between 142 = .ok (.iload 5, 2) := by decide +kernel
theorem dX12_between_144 : decode cX12_between 144 = .ok (.aload_n 0, 1) := by decide +kernel
theorem dX12_between_145 : decode cX12_between 145 = .ok (.getfield 86, 3) := by decide +kernel
theorem dX12_between_148 : decode cX12_between 148 = .ok (.iload 5, 2) := by decide +kernel
theorem dX12_between_150 : decode cX12_between 150 = .ok (.iconst 1, 1) := by decide +kernel
theorem dX12_between_151 : decode cX12_between 151 = .ok (.isub, 1) := by decide +kernel
theorem dX12_between_152 : decode cX12_between 152 = .ok (.iaload, 1) := by decide +kernel
theorem dX12_between_153 : decode cX12_between 153 = .ok (.iastore, 1) := by decide +kernel
theorem dX12_between_154 : decode cX12_between 154 = .ok (.iinc 5 (-1), 3) := by decide +kernel
theorem dX12_between_157 : decode cX12_between 157 = .ok (.goto (-43), 3) := by decide +kernel
theorem dX12_between_160 : decode cX12_between 160 = .ok (.aload_n 0, 1) := by decide +kernel
theorem dX12_between_161 : decode cX12_between 161 = .ok (.getfield 86, 3) := by decide +kernel
theorem dX12_between_164 : decode cX12_between 164 = .ok (.iload 5, 2) := by decide +kernel
theorem dX12_between_166 : decode cX12_between 166 = .ok (.aload_n 0, 1) := by decide +kernel
theorem dX12_between_167 : decode cX12_between 167 = .ok (.getfield 33, 3) := by decide +kernel
theorem dX12_between_170 : decode cX12_between 170 = .ok (.iload 4, 2) := by decide +kernel
theorem dX12_between_172 : decode cX12_between 172 = .ok (.iaload, 1) := by decide +kernel
theorem dX12_between_173 : decode cX12_between 173 = .ok (.iastore, 1) := by decide +kernel
theorem dX12_between_174 : decode cX12_between 174 = .ok (.iinc 3 1, 3) := by decide +kernel
theorem dX12_between_177 : decode cX12_between 177 = .ok (.iinc 4 1, 3) := by decide +kernel
theorem dX12_between_180 : decode cX12_between 180 = .ok (.goto (-133), 3) := by decide +kernel
theorem dX12_between_183 : decode cX12_between 183 = .ok (.iconst 0, 1) := by decide +kernel
theorem dX12_between_184 : decode cX12_between 184 = .ok (.istore 4, 2) := by decide +kernel
theorem dX12_between_186 : decode cX12_between 186 = .ok (.iconst 0, 1) := by decide +kernel
theorem dX12_between_187 : decode cX12_between 187 = .ok (.istore 5, 2) := by decide +kernel
theorem dX12_between_189 : decode cX12_between 189 = .ok (.iload 5, 2) := by decide +kernel
theorem dX12_between_191 : decode cX12_between 191 = .ok (.iload_n 3, 1) := by decide +kernel
theorem dX12_between_192 : decode cX12_between 192 = .ok (.if_icmp .ge 55, 3) := by decide +kernel
theorem dX12_between_195 : decode cX12_between 195 = .ok (.aload_n 0, 1) := by decide +kernel
theorem dX12_between_196 : decode cX12_between 196 = .ok (.aload_n 0, 1) := by decide +kernel
theorem dX12_between_197 : decode cX12_between 197 = .ok (.getfield 86, 3) := by decide +kernel
theorem dX12_between_200 : decode cX12_between 200 = .ok (.iload 5, 2) := by decide +kernel
theorem dX12_between_202 : decode cX12_between 202 = .ok (.iaload, 1) := by decide +kernel
theorem dX12_between_203 : decode cX12_between 203 = .ok (.aload_n 0, 1) := by decide +kernel
theorem dX12_between_204 : decode cX12_between 204 = .ok (.iload_n 1, 1) := by decide +kernel
theorem dX12_between_205 : decode cX12_between 205 = .ok (.iconst 2, 1) := by decide +kernel
theorem dX12_between_206 : decode cX12_between 206 = .ok (.invokevirtual 194, 3) := by decide +kernel
theorem dX12_between_209 : decode cX12_between 209 = .ok (.aload_n 0, 1) := by decide +kernel
theorem dX12_between_210 : decode cX12_between 210 = .ok (.iload_n 1, 1) := by decide +kernel
theorem dX12_between_211 : decode cX12_between 211 = .ok (.iconst 1, 1) := by decide +kernel
theorem dX12_between_212 : decode cX12_between 212 = .ok (.invokevirtual 194, 3) := by decide +kernel
theorem dX12_between_215 : decode cX12_between 215 = .ok (.invokevirtual 380, 3) := by decide +kernel
theorem dX12_between_218 : decode cX12_between 218 = .ok (.ifCond .ne 6, 3) := by decide +kernel
theorem dX12_between_221 : decode cX12_between 221 = .ok (.goto 20, 3) := by decide +kernel
theorem dX12_between_224 : decode cX12_between 224 = .ok (.iload 4, 2) := by decide +kernel
theorem dX12_between_226 : decode cX12_between 226 = .ok (.iload_n 2, 1) := by decide +kernel
theorem dX12_between_227 : decode cX12_between 227 = .ok (.if_icmp .ne 11, 3) := by decide +kernel
theorem dX12_between_230 : decode cX12_between 230 = .ok (.aload_n 0, 1) := by decide +kernel
theorem dX12_between_231 : decode cX12_between 231 = .ok (.getfield 86, 3) := by decide +kernel
theorem dX12_between_234 : decode cX12_between 234 = .ok (.iload 5, 2) := by decide +kernel
theorem dX12_between_236 : decode cX12_between 236 = .ok (.iaload, 1) := by decide +kernel
theorem dX12_between_237 : decode cX12_between 237 = .ok (.ireturn, 1) := by decide +kernel
theorem dX12_between_238 : decode cX12_between 238 = .ok (.iinc 4 1, 3) := by decide +kernel
theorem dX12_between_241 : decode cX12_between 241 = .ok (.iinc 5 1, 3) := by decide +kernel
theorem dX12_between_244 : decode cX12_between 244 = .ok (.goto (-55), 3) := by decide +kernel
theorem dX12_between_247 : decode cX12_between 247 = .ok (.iload_n 2, 1) := by decide +kernel
theorem dX12_between_248 : decode cX12_between 248 = .ok (.iconst (-1), 1) := by decide +kernel
theorem dX12_between_249 : decode cX12_between 249 = .ok (.if_icmp .ne 8, 3) := by decide +kernel
theorem dX12_between_252 : decode cX12_between 252 = .ok (.iload 4, 2) := by decide +kernel
theorem dX12_between_254 : decode cX12_between 254 = .ok (.goto 4, 3) := by decide +kernel
theorem dX12_between_257 : decode cX12_between 257 = .ok (.iconst (-1), 1) := by decide +kernel
theorem dX12_between_258 : decode cX12_between 258 = .ok (.ireturn, 1) := by decide +kernel
theorem dX12_judge_0 : decode cX12_judge 0 = .ok (.iload_n 1, 1) := by decide +kernel
theorem dX12_judge_1 : decode cX12_judge 1 = .ok (.iconst 0, 1) := by decide +kernel
theorem dX12_judge_2 : decode cX12_judge 2 = .ok (.iconst 1, 1) := by decide +kernel
theorem dX12_judge_3 : decode cX12_judge 3 = .ok (.invokestatic 123, 3) := by decide +kernel
theorem dX12_judge_6 : decode cX12_judge 6 = .ok (.ifCond .ne 5, 3) := by decide +kernel
theorem dX12_judge_9 : decode cX12_judge 9 = .ok (.iconst (-1), 1) := by decide +kernel
theorem dX12_judge_10 : decode cX12_judge 10 = .ok (.ireturn, 1) := by decide +kernel
theorem dX12_judge_11 : decode cX12_judge 11 = .ok (.iconst (-1), 1) := by decide +kernel
theorem dX12_judge_12 : decode cX12_judge 12 = .ok (.istore_n 2, 1) := by decide +kernel
theorem dX12_judge_13 : decode cX12_judge 13 = .ok (.iconst 0, 1) := by decide +kernel
theorem dX12_judge_14 : decode cX12_judge 14 = .ok (.istore_n 3, 1) := by decide +kernel
theorem dX12_judge_15 : decode cX12_judge 15 = .ok (.iconst 0, 1) := by decide +kernel
theorem dX12_judge_16 : decode cX12_judge 16 = .ok (.istore 4, 2) := by decide +kernel
theorem dX12_judge_18 : decode cX12_judge 18 = .ok (.iload 4, 2) := by decide +kernel
theorem dX12_judge_20 : decode cX12_judge 20 = .ok (.aload_n 0, 1) := by decide +kernel
theorem dX12_judge_21 : decode cX12_judge 21 = .ok (.getfield 20, 3) := by decide +kernel
theorem dX12_judge_24 : decode cX12_judge 24 = .ok (.bipush 56, 2) := by decide +kernel
theorem dX12_judge_26 : decode cX12_judge 26 = .ok (.iaload, 1) := by decide +kernel
theorem dX12_judge_27 : decode cX12_judge 27 = .ok (.if_icmp .ge 70, 3) := by decide +kernel
theorem dX12_judge_30 : decode cX12_judge 30 = .ok (.aload_n 0, 1) := by decide +kernel
theorem dX12_judge_31 : decode cX12_judge 31 = .ok (.iload 4, 2) := by decide +kernel
theorem dX12_judge_33 : decode cX12_judge 33 = .ok (.iconst 0, 1) := by decide +kernel
theorem dX12_judge_34 : decode cX12_judge 34 = .ok (.invokevirtual 194, 3) := by decide +kernel
theorem dX12_judge_37 : decode cX12_judge 37 = .ok (.istore 5, 2) := by decide +kernel
theorem dX12_judge_39 : decode cX12_judge 39 = .ok (.iload 5, 2) := by decide +kernel
theorem dX12_judge_41 : decode cX12_judge 41 = .ok (.iconst (-1), 1) := by decide +kernel
theorem dX12_judge_42 : decode cX12_judge 42 = .ok (.if_icmp .eq 49, 3) := by decide +kernel
theorem dX12_judge_45 : decode cX12_judge 45 = .ok (.aload_n 0, 1) := by decide +kernel
theorem dX12_judge_46 : decode cX12_judge 46 = .ok (.aload_n 0, 1) := by decide +kernel
theorem dX12_judge_47 : decode cX12_judge 47 = .ok (.iload 5, 2) := by decide +kernel
theorem dX12_judge_49 : decode cX12_judge 49 = .ok (.iconst 2, 1) := by decide +kernel
theorem dX12_judge_50 : decode cX12_judge 50 = .ok (.invokevirtual 194, 3) := by decide +kernel
theorem dX12_judge_53 : decode cX12_judge 53 = .ok (.aload_n 0, 1) := by decide +kernel
theorem dX12_judge_54 : decode cX12_judge 54 = .ok (.iload 4, 2) := by decide +kernel
theorem dX12_judge_56 : decode cX12_judge 56 = .ok (.iconst 2, 1) := by decide +kernel
theorem dX12_judge_57 : decode cX12_judge 57 = .ok (.invokevirtual 194, 3) := by decide +kernel
theorem dX12_judge_60 : decode cX12_judge 60 = .ok (.aload_n 0, 1) := by decide +kernel
theorem dX12_judge_61 : decode cX12_judge 61 = .ok (.iload 4, 2) := by decide +kernel
theorem dX12_judge_63 : decode cX12_judge 63 = .ok (.iconst 1, 1) := by decide +kernel
theorem dX12_judge_64 : decode cX12_judge 64 = .ok (.invokevirtual 194, 3) := by decide +kernel
theorem dX12_judge_67 : decode cX12_judge 67 = .ok (.invokevirtual 380, 3) := by decide +kernel
theorem dX12_judge_70 : decode cX12_judge 70 = .ok (.ifCond .eq 6, 3) := by decide +kernel
theorem dX12_judge_73 : decode cX12_judge 73 = .ok (.goto 18, 3) := by decide +kernel
theorem dX12_judge_76 : decode cX12_judge 76 = .ok (.iload_n 2, 1) := by decide +kernel
theorem dX12_judge_77 : decode cX12_judge 77 = .ok (.iconst (-1), 1) := by decide +kernel
theorem dX12_judge_78 : decode cX12_judge 78 = .ok (.if_icmp .ne 8, 3) := by decide +kernel
theorem dX12_judge_81 : decode cX12_judge 81 = .ok (.iload 4, 2) := by decide +kernel
theorem dX12_judge_83 : decode cX12_judge 83 = .ok (.goto 4, 3) := by decide +kernel
theorem dX12_judge_86 : decode cX12_judge 86 = .ok (.iload_n 2, 1) := by decide +kernel
theorem dX12_judge_87 : decode cX12_judge 87 = .ok (.istore_n 2, 1) := by decide +kernel
theorem dX12_judge_88 : decode cX12_judge 88 = .ok (.iinc 3 1, 3) := by decide +kernel
theorem dX12_judge_91 : decode cX12_judge 91 = .ok (.iinc 4 1, 3) := by decide +kernel
theorem dX12_judge_94 : decode cX12_judge 94 = .ok (.goto (-76), 3) := by decide +kernel
theorem dX12_judge_97 : decode cX12_judge 97 = .ok (.iload_n 1, 1) := by decide +kernel
theorem dX12_judge_98 : decode cX12_judge 98 = .ok (.ifCond .ne 7, 3) := by decide +kernel
theorem dX12_judge_101 : decode cX12_judge 101 = .ok (.iload_n 2, 1) := by decide +kernel
theorem dX12_judge_102 : decode cX12_judge 102 = .ok (.goto 4, 3) := by decide +kernel
theorem dX12_judge_105 : decode cX12_judge 105 = .ok (.iload_n 3, 1) := by decide +kernel
theorem dX12_judge_106 : decode cX12_judge 106 = .ok (.ireturn, 1) := by decide +kernel
theorem dX12_isPoor_0 : decode cX12_isPoor 0 = .ok (.iconst 0, 1) := by decide +kernel
theorem dX12_isPoor_1 : decode cX12_isPoor 1 = .ok (.istore_n 3, 1) := by decide +kernel
theorem dX12_isPoor_2 : decode cX12_isPoor 2 = .ok (.iconst 0, 1) := by decide +kernel
theorem dX12_isPoor_3 : decode cX12_isPoor 3 = .ok (.istore 4, 2) := by decide +kernel
theorem dX12_isPoor_5 : decode cX12_isPoor 5 = .ok (.iload 4, 2) := by decide +kernel
theorem dX12_isPoor_7 : decode cX12_isPoor 7 = .ok (.aload_n 0, 1) := by decide +kernel
theorem dX12_isPoor_8 : decode cX12_isPoor 8 = .ok (.getfield 20, 3) := by decide +kernel
theorem dX12_isPoor_11 : decode cX12_isPoor 11 = .ok (.bipush 56, 2) := by decide +kernel
theorem dX12_isPoor_13 : decode cX12_isPoor 13 = .ok (.iaload, 1) := by decide +kernel
theorem dX12_isPoor_14 : decode cX12_isPoor 14 = .ok (.if_icmp .ge 64, 3) := by decide +kernel
theorem dX12_isPoor_17 : decode cX12_isPoor 17 = .ok (.aload_n 0, 1) := by decide +kernel
theorem dX12_isPoor_18 : decode cX12_isPoor 18 = .ok (.aload_n 0, 1) := by decide +kernel
theorem dX12_isPoor_19 : decode cX12_isPoor 19 = .ok (.iload 4, 2) := by decide +kernel
theorem dX12_isPoor_21 : decode cX12_isPoor 21 = .ok (.iconst 2, 1) := by decide +kernel
theorem dX12_isPoor_22 : decode cX12_isPoor 22 = .ok (.invokevirtual 194, 3) := by decide +kernel
theorem dX12_isPoor_25 : decode cX12_isPoor 25 = .ok (.iload_n 2, 1) := by decide +kernel
theorem dX12_isPoor_26 : decode cX12_isPoor 26 = .ok (.invokevirtual 159, 3) := by decide +kernel
theorem dX12_isPoor_29 : decode cX12_isPoor 29 = .ok (.ifCond .le 7, 3) := by decide +kernel
theorem dX12_isPoor_32 : decode cX12_isPoor 32 = .ok (.iconst 1, 1) := by decide +kernel
theorem dX12_isPoor_33 : decode cX12_isPoor 33 = .ok (.goto 4, 3) := by decide +kernel
theorem dX12_isPoor_36 : decode cX12_isPoor 36 = .ok (.iconst 0, 1) := by decide +kernel
theorem dX12_isPoor_37 : decode cX12_isPoor 37 = .ok (.istore 5, 2) := by decide +kernel
theorem dX12_isPoor_39 : decode cX12_isPoor 39 = .ok (.iload 5, 2) := by decide +kernel
theorem dX12_isPoor_41 : decode cX12_isPoor 41 = .ok (.ifCond .eq 16, 3) := by decide +kernel
theorem dX12_isPoor_44 : decode cX12_isPoor 44 = .ok (.aload_n 0, 1) := by decide +kernel
theorem dX12_isPoor_45 : decode cX12_isPoor 45 = .ok (.iload 4, 2) := by decide +kernel
theorem dX12_isPoor_47 : decode cX12_isPoor 47 = .ok (.iconst 1, 1) := by decide +kernel
theorem dX12_isPoor_48 : decode cX12_isPoor 48 = .ok (.invokevirtual 194, 3) := by decide +kernel
theorem dX12_isPoor_51 : decode cX12_isPoor 51 = .ok (.iload_n 1, 1) := by decide +kernel
theorem dX12_isPoor_52 : decode cX12_isPoor 52 = .ok (.if_icmp .lt 5, 3) := by decide +kernel
theorem dX12_isPoor_55 : decode cX12_isPoor 55 = .ok (.iconst 0, 1) := by decide +kernel
theorem dX12_isPoor_56 : decode cX12_isPoor 56 = .ok (.ireturn, 1) := by decide +kernel
theorem dX12_isPoor_57 : decode cX12_isPoor 57 = .ok (.iload_n 3, 1) := by decide +kernel
theorem dX12_isPoor_58 : decode cX12_isPoor 58 = .ok (.ifCond .ne 8, 3) := by decide +kernel
theorem dX12_isPoor_61 : decode cX12_isPoor 61 = .ok (.iload 5, 2) := by decide +kernel
theorem dX12_isPoor_63 : decode cX12_isPoor 63 = .ok (.ifCond .eq 7, 3) := by decide +kernel
theorem dX12_isPoor_66 : decode cX12_isPoor 66 = .ok (.iconst 1, 1) := by decide +kernel
theorem dX12_isPoor_67 : decode cX12_isPoor 67 = .ok (.goto 4, 3) := by decide +kernel
theorem dX12_isPoor_70 : decode cX12_isPoor 70 = .ok (.iconst 0, 1) := by decide +kernel
theorem dX12_isPoor_71 : decode cX12_isPoor 71 = .ok (.istore_n 3, 1) := by decide +kernel
theorem dX12_isPoor_72 : decode cX12_isPoor 72 = .ok (.iinc 4 1, 3) := by decide +kernel
theorem dX12_isPoor_75 : decode cX12_isPoor 75 = .ok (.goto (-70), 3) := by decide +kernel
theorem dX12_isPoor_78 : decode cX12_isPoor 78 = .ok (.iload_n 3, 1) := by decide +kernel
theorem dX12_isPoor_79 : decode cX12_isPoor 79 = .ok (.ireturn, 1) := by decide +kernel
theorem dX12_poor_0 : decode cX12_poor 0 = .ok (.iload_n 1, 1) := by decide +kernel
theorem dX12_poor_1 : decode cX12_poor 1 = .ok (.iconst (-1), 1) := by decide +kernel
theorem dX12_poor_2 : decode cX12_poor 2 = .ok (.if_icmp .ge 5, 3) := by decide +kernel
theorem dX12_poor_5 : decode cX12_poor 5 = .ok (.iconst (-1), 1) := by decide +kernel
theorem dX12_poor_6 : decode cX12_poor 6 = .ok (.ireturn, 1) := by decide +kernel
theorem dX12_poor_7 : decode cX12_poor 7 = .ok (.iconst 0, 1) := by decide +kernel
theorem dX12_poor_8 : decode cX12_poor 8 = .ok (.istore_n 2, 1) := by decide +kernel
theorem dX12_poor_9 : decode cX12_poor 9 = .ok (.iconst 0, 1) := by decide +kernel
theorem dX12_poor_10 : decode cX12_poor 10 = .ok (.istore_n 3, 1) := by decide +kernel
theorem dX12_poor_11 : decode cX12_poor 11 = .ok (.iload_n 3, 1) := by decide +kernel
theorem dX12_poor_12 : decode cX12_poor 12 = .ok (.sipush 999, 3) := by decide +kernel
theorem dX12_poor_15 : decode cX12_poor 15 = .ok (.if_icmp .gt 106, 3) := by decide +kernel
theorem dX12_poor_18 : decode cX12_poor 18 = .ok (.iconst 0, 1) := by decide +kernel
theorem dX12_poor_19 : decode cX12_poor 19 = .ok (.istore 4, 2) := by decide +kernel
theorem dX12_poor_21 : decode cX12_poor 21 = .ok (.iconst 0, 1) := by decide +kernel
theorem dX12_poor_22 : decode cX12_poor 22 = .ok (.istore 5, 2) := by decide +kernel
theorem dX12_poor_24 : decode cX12_poor 24 = .ok (.iload 5, 2) := by decide +kernel
theorem dX12_poor_26 : decode cX12_poor 26 = .ok (.aload_n 0, 1) := by decide +kernel
theorem dX12_poor_27 : decode cX12_poor 27 = .ok (.getfield 20, 3) := by decide +kernel
theorem dX12_poor_30 : decode cX12_poor 30 = .ok (.bipush 56, 2) := by decide +kernel
theorem dX12_poor_32 : decode cX12_poor 32 = .ok (.iaload, 1) := by decide +kernel
theorem dX12_poor_33 : decode cX12_poor 33 = .ok (.if_icmp .ge 32, 3) := by decide +kernel
theorem dX12_poor_36 : decode cX12_poor 36 = .ok (.iload 4, 2) := by decide +kernel
theorem dX12_poor_38 : decode cX12_poor 38 = .ok (.ifCond .ne 14, 3) := by decide +kernel
theorem dX12_poor_41 : decode cX12_poor 41 = .ok (.aload_n 0, 1) := by decide +kernel
theorem dX12_poor_42 : decode cX12_poor 42 = .ok (.iload 5, 2) := by decide +kernel
theorem dX12_poor_44 : decode cX12_poor 44 = .ok (.iconst 1, 1) := by decide +kernel
theorem dX12_poor_45 : decode cX12_poor 45 = .ok (.invokevirtual 194, 3) := by decide +kernel
theorem dX12_poor_48 : decode cX12_poor 48 = .ok (.iload_n 3, 1) := by decide +kernel
theorem dX12_poor_49 : decode cX12_poor 49 = .ok (.if_icmp .ne 7, 3) := by decide +kernel
theorem dX12_poor_52 : decode cX12_poor 52 = .ok (.iconst 1, 1) := by decide +kernel
theorem dX12_poor_53 : decode cX12_poor 53 = .ok (.goto 4, 3) := by decide +kernel
theorem dX12_poor_56 : decode cX12_poor 56 = .ok (.iconst 0, 1) := by decide +kernel
theorem dX12_poor_57 : decode cX12_poor 57 = .ok (.istore 4, 2) := by decide +kernel
theorem dX12_poor_59 : decode cX12_poor 59 = .ok (.iinc 5 1, 3) := by decide +kernel
theorem dX12_poor_62 : decode cX12_poor 62 = .ok (.goto (-38), 3) := by decide +kernel
theorem dX12_poor_65 : decode cX12_poor 65 = .ok (.iconst 0, 1) := by decide +kernel
theorem dX12_poor_66 : decode cX12_poor 66 = .ok (.istore 5, 2) := by decide +kernel
theorem dX12_poor_68 : decode cX12_poor 68 = .ok (.iload 5, 2) := by decide +kernel
theorem dX12_poor_70 : decode cX12_poor 70 = .ok (.bipush 6, 2) := by decide +kernel
theorem dX12_poor_72 : decode cX12_poor 72 = .ok (.if_icmp .ge 43, 3) := by decide +kernel
theorem dX12_poor_75 : decode cX12_poor 75 = .ok (.iload 4, 2) := by decide +kernel
theorem dX12_poor_77 : decode cX12_poor 77 = .ok (.ifCond .eq 38, 3) := by decide +kernel
theorem dX12_poor_80 : decode cX12_poor 80 = .ok (.aload_n 0, 1) := by decide +kernel
theorem dX12_poor_81 : decode cX12_poor 81 = .ok (.iload_n 3, 1) := by decide +kernel
theorem dX12_poor_82 : decode cX12_poor 82 = .ok (.iload 5, 2) := by decide +kernel
theorem dX12_poor_84 : decode cX12_poor 84 = .ok (.invokevirtual 383, 3) := by decide +kernel
theorem dX12_poor_87 : decode cX12_poor 87 = .ok (.ifCond .ne 6, 3) := by decide +kernel
theorem dX12_poor_90 : decode cX12_poor 90 = .ok (.goto 19, 3) := by decide +kernel
theorem dX12_poor_93 : decode cX12_poor 93 = .ok (.iload_n 2, 1) := by decide +kernel
theorem dX12_poor_94 : decode cX12_poor 94 = .ok (.iload_n 1, 1) := by decide +kernel
theorem dX12_poor_95 : decode cX12_poor 95 = .ok (.if_icmp .ne 11, 3) := by decide +kernel
theorem dX12_poor_98 : decode cX12_poor 98 = .ok (.bipush 6, 2) := by decide +kernel
theorem dX12_poor_100 : decode cX12_poor 100 = .ok (.iload_n 3, 1) := by decide +kernel
theorem dX12_poor_101 : decode cX12_poor 101 = .ok (.imul, 1) := by decide +kernel
theorem dX12_poor_102 : decode cX12_poor 102 = .ok (.iload 5, 2) := by decide +kernel
theorem dX12_poor_104 : decode cX12_poor 104 = .ok (.iadd, 1) := by decide +kernel
theorem dX12_poor_105 : decode cX12_poor 105 = .ok (.ireturn, 1) := by decide +kernel
theorem dX12_poor_106 : decode cX12_poor 106 = .ok (.iinc 2 1, 3) := by decide +kernel
theorem dX12_poor_109 : decode cX12_poor 109 = .ok (.iinc 5 1, 3) := by decide +kernel
theorem dX12_poor_112 : decode cX12_poor 112 = .ok (.goto (-44), 3) := by decide +kernel
theorem dX12_poor_115 : decode cX12_poor 115 = .ok (.iinc 3 1, 3) := by decide +kernel
theorem dX12_poor_118 : decode cX12_poor 118 = .ok (.goto (-107), 3) := by decide +kernel
theorem dX12_poor_121 : decode cX12_poor 121 = .ok (.iload_n 1, 1) := by decide +kernel
theorem dX12_poor_122 : decode cX12_poor 122 = .ok (.iconst (-1), 1) := by decide +kernel
theorem dX12_poor_123 : decode cX12_poor 123 = .ok (.if_icmp .ne 7, 3) := by decide +kernel
theorem dX12_poor_126 : decode cX12_poor 126 = .ok (.iload_n 2, 1) := by decide +kernel
theorem dX12_poor_127 : decode cX12_poor 127 = .ok (.goto 4, 3) := by decide +kernel
theorem dX12_poor_130 : decode cX12_poor 130 = .ok (.iconst (-1), 1) := by decide +kernel
theorem dX12_poor_131 : decode cX12_poor 131 = .ok (.ireturn, 1) := by decide +kernel
theorem dX12_areHouses_0 : decode cX12_areHouses 0 = .ok (.iload_n 1, 1) := by decide +kernel
theorem dX12_areHouses_1 : decode cX12_areHouses 1 = .ok (.iconst 1, 1) := by decide +kernel
theorem dX12_areHouses_2 : decode cX12_areHouses 2 = .ok (.iconst 1, 1) := by decide +kernel
theorem dX12_areHouses_3 : decode cX12_areHouses 3 = .ok (.aload_n 0, 1) := by decide +kernel
theorem dX12_areHouses_4 : decode cX12_areHouses 4 = .ok (.getfield 20, 3) := by decide +kernel
theorem dX12_areHouses_7 : decode cX12_areHouses 7 = .ok (.bipush 56, 2) := by decide +kernel
theorem dX12_areHouses_9 : decode cX12_areHouses 9 = .ok (.iaload, 1) := by decide +kernel
theorem dX12_areHouses_10 : decode cX12_areHouses 10 = .ok (.ishl, 1) := by decide +kernel
theorem dX12_areHouses_11 : decode cX12_areHouses 11 = .ok (.iconst 1, 1) := by decide +kernel
theorem dX12_areHouses_12 : decode cX12_areHouses 12 = .ok (.isub, 1) := by decide +kernel
theorem dX12_areHouses_13 : decode cX12_areHouses 13 = .ok (.invokestatic 123, 3) := by decide +kernel
theorem dX12_areHouses_16 : decode cX12_areHouses 16 = .ok (.ireturn, 1) := by decide +kernel
theorem dX12_measuresTo_0 : decode cX12_measuresTo 0 = .ok (.iconst 0, 1) := by decide +kernel
theorem dX12_measuresTo_1 : decode cX12_measuresTo 1 = .ok (.istore_n 2, 1) := by decide +kernel
theorem dX12_measuresTo_2 : decode cX12_measuresTo 2 = .ok (.iload_n 2, 1) := by decide +kernel
theorem dX12_measuresTo_3 : decode cX12_measuresTo 3 = .ok (.sipush 9331, 3) := by decide +kernel
theorem dX12_measuresTo_6 : decode cX12_measuresTo 6 = .ok (.if_icmp .ge 26, 3) := by decide +kernel
theorem dX12_measuresTo_9 : decode cX12_measuresTo 9 = .ok (.aload_n 0, 1) := by decide +kernel
theorem dX12_measuresTo_10 : decode cX12_measuresTo 10 = .ok (.getfield 77, 3) := by decide +kernel
theorem dX12_measuresTo_13 : decode cX12_measuresTo 13 = .ok (.iload_n 2, 1) := by decide +kernel
theorem dX12_measuresTo_14 : decode cX12_measuresTo 14 = .ok (.iload_n 2, 1) := by decide +kernel
theorem dX12_measuresTo_15 : decode cX12_measuresTo 15 = .ok (.iload_n 1, 1) := by decide +kernel
theorem dX12_measuresTo_16 : decode cX12_measuresTo 16 = .ok (.if_icmp .ne 7, 3) := by decide +kernel
theorem dX12_measuresTo_19 : decode cX12_measuresTo 19 = .ok (.iconst 0, 1) := by decide +kernel
theorem dX12_measuresTo_20 : decode cX12_measuresTo 20 = .ok (.goto 5, 3) := by decide +kernel
theorem dX12_measuresTo_23 : decode cX12_measuresTo 23 = .ok (.ldc 229, 2) := by decide +kernel
theorem dX12_measuresTo_25 : decode cX12_measuresTo 25 = .ok (.iastore, 1) := by decide +kernel
theorem dX12_measuresTo_26 : decode cX12_measuresTo 26 = .ok (.iinc 2 1, 3) := by decide +kernel
theorem dX12_measuresTo_29 : decode cX12_measuresTo 29 = .ok (.goto (-27), 3) := by decide +kernel
theorem dX12_measuresTo_32 : decode cX12_measuresTo 32 = .ok (.iconst 1, 1) := by decide +kernel
theorem dX12_measuresTo_33 : decode cX12_measuresTo 33 = .ok (.istore_n 2, 1) := by decide +kernel
theorem dX12_measuresTo_34 : decode cX12_measuresTo 34 = .ok (.iconst 0, 1) := by decide +kernel
theorem dX12_measuresTo_35 : decode cX12_measuresTo 35 = .ok (.istore_n 3, 1) := by decide +kernel
theorem dX12_measuresTo_36 : decode cX12_measuresTo 36 = .ok (.iload_n 2, 1) := by decide +kernel
theorem dX12_measuresTo_37 : decode cX12_measuresTo 37 = .ok (.ifCond .eq 121, 3) := by decide +kernel
theorem dX12_measuresTo_40 : decode cX12_measuresTo 40 = .ok (.iconst 0, 1) := by decide +kernel
theorem dX12_measuresTo_41 : decode cX12_measuresTo 41 = .ok (.istore_n 2, 1) := by decide +kernel
theorem dX12_measuresTo_42 : decode cX12_measuresTo 42 = .ok (.iconst 0, 1) := by decide +kernel
theorem dX12_measuresTo_43 : decode cX12_measuresTo 43 = .ok (.istore 4, 2) := by decide +kernel
theorem dX12_measuresTo_45 : decode cX12_measuresTo 45 = .ok (.iload 4, 2) := by decide +kernel
theorem dX12_measuresTo_47 : decode cX12_measuresTo 47 = .ok (.sipush 9331, 3) := by decide +kernel
theorem dX12_measuresTo_50 : decode cX12_measuresTo 50 = .ok (.if_icmp .ge 102, 3) := by decide +kernel
theorem dX12_measuresTo_53 : decode cX12_measuresTo 53 = .ok (.aload_n 0, 1) := by decide +kernel
theorem dX12_measuresTo_54 : decode cX12_measuresTo 54 = .ok (.getfield 77, 3) := by decide +kernel
theorem dX12_measuresTo_57 : decode cX12_measuresTo 57 = .ok (.iload 4, 2) := by decide +kernel
theorem dX12_measuresTo_59 : decode cX12_measuresTo 59 = .ok (.iaload, 1) := by decide +kernel
theorem dX12_measuresTo_60 : decode cX12_measuresTo 60 = .ok (.ldc 229, 2) := by decide +kernel
theorem dX12_measuresTo_62 : decode cX12_measuresTo 62 = .ok (.if_icmp .ge 6, 3) := by decide +kernel
theorem dX12_measuresTo_65 : decode cX12_measuresTo 65 = .ok (.goto 81, 3) := by decide +kernel
theorem dX12_measuresTo_68 : decode cX12_measuresTo 68 = .ok (.iconst 0, 1) := by decide +kernel
theorem dX12_measuresTo_69 : decode cX12_measuresTo 69 = .ok (.istore 5, 2) := by decide +kernel
theorem dX12_measuresTo_71 : decode cX12_measuresTo 71 = .ok (.iconst 0, 1) := by decide +kernel
theorem dX12_measuresTo_72 : decode cX12_measuresTo 72 = .ok (.istore 6, 2) := by decide +kernel
theorem dX12_measuresTo_74 : decode cX12_measuresTo 74 = .ok (.iload 6, 2) := by decide +kernel
theorem dX12_measuresTo_76 : decode cX12_measuresTo 76 = .ok (.aload_n 0, 1) := by decide +kernel
theorem dX12_measuresTo_77 : decode cX12_measuresTo 77 = .ok (.getfield 71, 3) := by decide +kernel
theorem dX12_measuresTo_80 : decode cX12_measuresTo 80 = .ok (.iload 4, 2) := by decide +kernel
theorem dX12_measuresTo_82 : decode cX12_measuresTo 82 = .ok (.iaload, 1) := by decide +kernel
theorem dX12_measuresTo_83 : decode cX12_measuresTo 83 = .ok (.if_icmp .ge 43, 3) := by decide +kernel
theorem dX12_measuresTo_86 : decode cX12_measuresTo 86 = .ok (.iload 5, 2) := by decide +kernel
theorem dX12_measuresTo_88 : decode cX12_measuresTo 88 = .ok (.ifCond .ne 38, 3) := by decide +kernel
theorem dX12_measuresTo_91 : decode cX12_measuresTo 91 = .ok (.aload_n 0, 1) := by decide +kernel
theorem dX12_measuresTo_92 : decode cX12_measuresTo 92 = .ok (.getfield 77, 3) := by decide +kernel
theorem dX12_measuresTo_95 : decode cX12_measuresTo 95 = .ok (.aload_n 0, 1) := by decide +kernel
theorem dX12_measuresTo_96 : decode cX12_measuresTo 96 = .ok (.getfield 68, 3) := by decide +kernel
theorem dX12_measuresTo_99 : decode cX12_measuresTo 99 = .ok (.bipush 46, 2) := by decide +kernel
theorem dX12_measuresTo_101 : decode cX12_measuresTo 101 = .ok (.iload 4, 2) := by decide +kernel
theorem dX12_measuresTo_103 : decode cX12_measuresTo 103 = .ok (.imul, 1) := by decide +kernel
theorem dX12_measuresTo_104 : decode cX12_measuresTo 104 = .ok (.iload 6, 2) := by decide +kernel
theorem dX12_measuresTo_106 : decode cX12_measuresTo 106 = .ok (.iadd, 1) := by decide +kernel
theorem dX12_measuresTo_107 : decode cX12_measuresTo 107 = .ok (.iaload, 1) := by decide +kernel
theorem dX12_measuresTo_108 : decode cX12_measuresTo 108 = .ok (.iaload, 1) := by decide +kernel
theorem dX12_measuresTo_109 : decode cX12_measuresTo 109 = .ok (.iload_n 3, 1) := by decide +kernel
theorem dX12_measuresTo_110 : decode cX12_measuresTo 110 = .ok (.if_icmp .ne 7, 3) := by decide +kernel
theorem dX12_measuresTo_113 : decode cX12_measuresTo 113 = .ok (.iconst 1, 1) := by decide +kernel
theorem dX12_measuresTo_114 : decode cX12_measuresTo 114 = .ok (.goto 4, 3) := by decide +kernel
theorem dX12_measuresTo_117 : decode cX12_measuresTo 117 = .ok (.iconst 0, 1) := by decide +kernel
theorem dX12_measuresTo_118 : decode cX12_measuresTo 118 = .ok (.istore 5, 2) := by decide +kernel
theorem dX12_measuresTo_120 : decode cX12_measuresTo 120 = .ok (.iinc 6 1, 3) := by decide +kernel
theorem dX12_measuresTo_123 : decode cX12_measuresTo 123 = .ok (.goto (-49), 3) := by decide +kernel
theorem dX12_measuresTo_126 : decode cX12_measuresTo 126 = .ok (.iload 5, 2) := by decide +kernel
theorem dX12_measuresTo_128 : decode cX12_measuresTo 128 = .ok (.ifCond .ne 6, 3) := by decide +kernel
theorem dX12_measuresTo_131 : decode cX12_measuresTo 131 = .ok (.goto 15, 3) := by decide +kernel
theorem dX12_measuresTo_134 : decode cX12_measuresTo 134 = .ok (.aload_n 0, 1) := by decide +kernel
theorem dX12_measuresTo_135 : decode cX12_measuresTo 135 = .ok (.getfield 77, 3) := by decide +kernel
theorem dX12_measuresTo_138 : decode cX12_measuresTo 138 = .ok (.iload 4, 2) := by decide +kernel
theorem dX12_measuresTo_140 : decode cX12_measuresTo 140 = .ok (.iload_n 3, 1) := by decide +kernel
theorem dX12_measuresTo_141 : decode cX12_measuresTo 141 = .ok (.iconst 1, 1) := by decide +kernel
theorem dX12_measuresTo_142 : decode cX12_measuresTo 142 = .ok (.iadd, 1) := by decide +kernel
theorem dX12_measuresTo_143 : decode cX12_measuresTo 143 = .ok (.iastore, 1) := by decide +kernel
theorem dX12_measuresTo_144 : decode cX12_measuresTo 144 = .ok (.iconst 1, 1) := by decide +kernel
theorem dX12_measuresTo_145 : decode cX12_measuresTo 145 = .ok (.istore_n 2, 1) := by decide +kernel
theorem dX12_measuresTo_146 : decode cX12_measuresTo 146 = .ok (.iinc 4 1, 3) := by decide +kernel
theorem dX12_measuresTo_149 : decode cX12_measuresTo 149 = .ok (.goto (-104), 3) := by decide +kernel
theorem dX12_measuresTo_152 : decode cX12_measuresTo 152 = .ok (.iinc 3 1, 3) := by decide +kernel
theorem dX12_measuresTo_155 : decode cX12_measuresTo 155 = .ok (.goto (-119), 3) := by decide +kernel
theorem dX12_measuresTo_158 : decode cX12_measuresTo 158 = .ok (.return_, 1) := by decide +kernel
theorem dX12_first_0 : decode cX12_first 0 = .ok (.aload_n 0, 1) := by decide +kernel
theorem dX12_first_1 : decode cX12_first 1 = .ok (.iload_n 1, 1) := by decide +kernel
theorem dX12_first_2 : decode cX12_first 2 = .ok (.invokevirtual 387, 3) := by decide +kernel
theorem dX12_first_5 : decode cX12_first 5 = .ok (.ifCond .eq 12, 3) := by decide +kernel
theorem dX12_first_8 : decode cX12_first 8 = .ok (.iload_n 2, 1) := by decide +kernel
theorem dX12_first_9 : decode cX12_first 9 = .ok (.iconst 0, 1) := by decide +kernel
theorem dX12_first_10 : decode cX12_first 10 = .ok (.iconst 2, 1) := by decide +kernel
theorem dX12_first_11 : decode cX12_first 11 = .ok (.invokestatic 123, 3) := by decide +kernel
theorem dX12_first_14 : decode cX12_first 14 = .ok (.ifCond .ne 5, 3) := by decide +kernel
theorem dX12_first_17 : decode cX12_first 17 = .ok (.iconst (-1), 1) := by decide +kernel
theorem dX12_first_18 : decode cX12_first 18 = .ok (.ireturn, 1) := by decide +kernel
theorem dX12_first_19 : decode cX12_first 19 = .ok (.aload_n 0, 1) := by decide +kernel
theorem dX12_first_20 : decode cX12_first 20 = .ok (.invokevirtual 365, 3) := by decide +kernel
theorem dX12_first_23 : decode cX12_first 23 = .ok (.iconst 0, 1) := by decide +kernel
theorem dX12_first_24 : decode cX12_first 24 = .ok (.istore_n 3, 1) := by decide +kernel
theorem dX12_first_25 : decode cX12_first 25 = .ok (.iload_n 3, 1) := by decide +kernel
theorem dX12_first_26 : decode cX12_first 26 = .ok (.sipush 9331, 3) := by decide +kernel
theorem dX12_first_29 : decode cX12_first 29 = .ok (.if_icmp .ge 16, 3) := by decide +kernel
theorem dX12_first_32 : decode cX12_first 32 = .ok (.aload_n 0, 1) := by decide +kernel
theorem dX12_first_33 : decode cX12_first 33 = .ok (.getfield 89, 3) := by decide +kernel
theorem dX12_first_36 : decode cX12_first 36 = .ok (.iload_n 3, 1) := by decide +kernel
theorem dX12_first_37 : decode cX12_first 37 = .ok (.iconst 0, 1) := by decide +kernel
theorem dX12_first_38 : decode cX12_first 38 = .ok (.iastore, 1) := by decide +kernel
theorem dX12_first_39 : decode cX12_first 39 = .ok (.iinc 3 1, 3) := by decide +kernel
theorem dX12_first_42 : decode cX12_first 42 = .ok (.goto (-17), 3) := by decide +kernel
theorem dX12_first_45 : decode cX12_first 45 = .ok (.iconst 0, 1) := by decide +kernel
theorem dX12_first_46 : decode cX12_first 46 = .ok (.istore_n 3, 1) := by decide +kernel
theorem dX12_first_47 : decode cX12_first 47 = .ok (.iload_n 3, 1) := by decide +kernel
theorem dX12_first_48 : decode cX12_first 48 = .ok (.aload_n 0, 1) := by decide +kernel
theorem dX12_first_49 : decode cX12_first 49 = .ok (.getfield 20, 3) := by decide +kernel
theorem dX12_first_52 : decode cX12_first 52 = .ok (.bipush 56, 2) := by decide +kernel
theorem dX12_first_54 : decode cX12_first 54 = .ok (.iaload, 1) := by decide +kernel
theorem dX12_first_55 : decode cX12_first 55 = .ok (.if_icmp .ge 101, 3) := by decide +kernel
theorem dX12_first_58 : decode cX12_first 58 = .ok (.iload_n 1, 1) := by decide +kernel
theorem dX12_first_59 : decode cX12_first 59 = .ok (.iload_n 3, 1) := by decide +kernel
theorem dX12_first_60 : decode cX12_first 60 = .ok (.invokestatic 390, 3) := by decide +kernel
theorem dX12_first_63 : decode cX12_first 63 = .ok (.ifCond .ne 6, 3) := by decide +kernel
theorem dX12_first_66 : decode cX12_first 66 = .ok (.goto 84, 3) := by decide +kernel
theorem dX12_first_69 : decode cX12_first 69 = .ok (.aload_n 0, 1) := by decide +kernel
theorem dX12_first_70 : decode cX12_first 70 = .ok (.aload_n 0, 1) := by decide +kernel
theorem dX12_first_71 : decode cX12_first 71 = .ok (.iload_n 3, 1) := by decide +kernel
theorem dX12_first_72 : decode cX12_first 72 = .ok (.iconst 2, 1) := by decide +kernel
theorem dX12_first_73 : decode cX12_first 73 = .ok (.invokevirtual 194, 3) := by decide +kernel
theorem dX12_first_76 : decode cX12_first 76 = .ok (.invokestatic 362, 3) := by decide +kernel
theorem dX12_first_79 : decode cX12_first 79 = .ok (.invokevirtual 393, 3) := by decide +kernel
theorem dX12_first_82 : decode cX12_first 82 = .ok (.iconst 0, 1) := by decide +kernel
theorem dX12_first_83 : decode cX12_first 83 = .ok (.istore 4, 2) := by decide +kernel
theorem dX12_first_85 : decode cX12_first 85 = .ok (.iload 4, 2) := by decide +kernel
theorem dX12_first_87 : decode cX12_first 87 = .ok (.sipush 9331, 3) := by decide +kernel
theorem dX12_first_90 : decode cX12_first 90 = .ok (.if_icmp .ge 60, 3) := by decide +kernel
theorem dX12_first_93 : decode cX12_first 93 = .ok (.aload_n 0, 1) := by decide +kernel
theorem dX12_first_94 : decode cX12_first 94 = .ok (.getfield 89, 3) := by decide +kernel
theorem dX12_first_97 : decode cX12_first 97 = .ok (.iload 4, 2) := by decide +kernel
theorem dX12_first_99 : decode cX12_first 99 = .ok (.aload_n 0, 1) := by decide +kernel
theorem dX12_first_100 : decode cX12_first 100 = .ok (.getfield 89, 3) := by decide +kernel
theorem dX12_first_103 : decode cX12_first 103 = .ok (.iload 4, 2) := by decide +kernel
theorem dX12_first_105 : decode cX12_first 105 = .ok (.iaload, 1) := by decide +kernel
theorem dX12_first_106 : decode cX12_first 106 = .ok (.ldc 229, 2) := by decide +kernel
theorem dX12_first_108 : decode cX12_first 108 = .ok (.if_icmp .ge 15, 3) := by decide +kernel
theorem dX12_first_111 : decode cX12_first 111 = .ok (.aload_n 0, 1) := by decide +kernel
theorem dX12_first_112 : decode cX12_first 112 = .ok (.getfield 77, 3) := by decide +kernel
theorem dX12_first_115 : decode cX12_first 115 = .ok (.iload 4, 2) := by decide +kernel
theorem dX12_first_117 : decode cX12_first 117 = .ok (.iaload, 1) := by decide +kernel
theorem dX12_first_118 : decode cX12_first 118 = .ok (.ldc 229, 2) := by decide +kernel
theorem dX12_first_120 : decode cX12_first 120 = .ok (.if_icmp .lt 8, 3) := by decide +kernel
theorem dX12_first_123 : decode cX12_first 123 = .ok (.ldc 229, 2) := by decide +kernel
theorem dX12_first_125 : decode cX12_first 125 = .ok (.goto 18, 3) := by decide +kernel
theorem dX12_first_128 : decode cX12_first 128 = .ok (.aload_n 0, 1) := by decide +kernel
theorem dX12_first_129 : decode cX12_first 129 = .ok (.getfield 89, 3) := by decide +kernel
theorem dX12_first_132 : decode cX12_first 132 = .ok (.iload 4, 2) := by decide +kernel
theorem dX12_first_134 : decode cX12_first 134 = .ok (.iaload, 1) := by decide +kernel
theorem dX12_first_135 : decode cX12_first 135 = .ok (.aload_n 0, 1) := by decide +kernel
theorem dX12_first_136 : decode cX12_first 136 = .ok (.getfield 77, 3) := by decide +kernel
theorem dX12_first_139 : decode cX12_first 139 = .ok (.iload 4, 2) := by decide +kernel
theorem dX12_first_141 : decode cX12_first 141 = .ok (.iaload, 1) := by decide +kernel
theorem dX12_first_142 : decode cX12_first 142 = .ok (.iadd, 1) := by decide +kernel
theorem dX12_first_143 : decode cX12_first 143 = .ok (.iastore, 1) := by decide +kernel
theorem dX12_first_144 : decode cX12_first 144 = .ok (.iinc 4 1, 3) := by decide +kernel
theorem dX12_first_147 : decode cX12_first 147 = .ok (.goto (-62), 3) := by decide +kernel
theorem dX12_first_150 : decode cX12_first 150 = .ok (.iinc 3 1, 3) := by decide +kernel
theorem dX12_first_153 : decode cX12_first 153 = .ok (.goto (-106), 3) := by decide +kernel
theorem dX12_first_156 : decode cX12_first 156 = .ok (.iconst (-1), 1) := by decide +kernel
theorem dX12_first_157 : decode cX12_first 157 = .ok (.istore_n 3, 1) := by decide +kernel
theorem dX12_first_158 : decode cX12_first 158 = .ok (.iconst 0, 1) := by decide +kernel
theorem dX12_first_159 : decode cX12_first 159 = .ok (.istore 4, 2) := by decide +kernel
theorem dX12_first_161 : decode cX12_first 161 = .ok (.iconst 0, 1) := by decide +kernel
theorem dX12_first_162 : decode cX12_first 162 = .ok (.istore 5, 2) := by decide +kernel
theorem dX12_first_164 : decode cX12_first 164 = .ok (.iload 5, 2) := by decide +kernel
theorem dX12_first_166 : decode cX12_first 166 = .ok (.sipush 9331, 3) := by decide +kernel
theorem dX12_first_169 : decode cX12_first 169 = .ok (.if_icmp .ge 75, 3) := by decide +kernel
theorem dX12_first_172 : decode cX12_first 172 = .ok (.aload_n 0, 1) := by decide +kernel
theorem dX12_first_173 : decode cX12_first 173 = .ok (.getfield 89, 3) := by decide +kernel
theorem dX12_first_176 : decode cX12_first 176 = .ok (.iload 5, 2) := by decide +kernel
theorem dX12_first_178 : decode cX12_first 178 = .ok (.iaload, 1) := by decide +kernel
theorem dX12_first_179 : decode cX12_first 179 = .ok (.ldc 229, 2) := by decide +kernel
theorem dX12_first_181 : decode cX12_first 181 = .ok (.if_icmp .ge 57, 3) := by decide +kernel
theorem dX12_first_184 : decode cX12_first 184 = .ok (.iload_n 3, 1) := by decide +kernel
theorem dX12_first_185 : decode cX12_first 185 = .ok (.iconst (-1), 1) := by decide +kernel
theorem dX12_first_186 : decode cX12_first 186 = .ok (.if_icmp .eq 22, 3) := by decide +kernel
theorem dX12_first_189 : decode cX12_first 189 = .ok (.aload_n 0, 1) := by decide +kernel
theorem dX12_first_190 : decode cX12_first 190 = .ok (.getfield 89, 3) := by decide +kernel
theorem dX12_first_193 : decode cX12_first 193 = .ok (.iload 5, 2) := by decide +kernel
theorem dX12_first_195 : decode cX12_first 195 = .ok (.iaload, 1) := by decide +kernel
theorem dX12_first_196 : decode cX12_first 196 = .ok (.aload_n 0, 1) := by decide +kernel
theorem dX12_first_197 : decode cX12_first 197 = .ok (.getfield 89, 3) := by decide +kernel
theorem dX12_first_200 : decode cX12_first 200 = .ok (.iload_n 3, 1) := by decide +kernel
theorem dX12_first_201 : decode cX12_first 201 = .ok (.iaload, 1) := by decide +kernel
theorem dX12_first_202 : decode cX12_first 202 = .ok (.if_icmp .le 6, 3) := by decide +kernel
theorem dX12_first_205 : decode cX12_first 205 = .ok (.goto 33, 3) := by decide +kernel
theorem dX12_first_208 : decode cX12_first 208 = .ok (.iload_n 3, 1) := by decide +kernel
theorem dX12_first_209 : decode cX12_first 209 = .ok (.iconst (-1), 1) := by decide +kernel
theorem dX12_first_210 : decode cX12_first 210 = .ok (.if_icmp .eq 19, 3) := by decide +kernel
theorem dX12_first_213 : decode cX12_first 213 = .ok (.aload_n 0, 1) := by decide +kernel
theorem dX12_first_214 : decode cX12_first 214 = .ok (.getfield 89, 3) := by decide +kernel
theorem dX12_first_217 : decode cX12_first 217 = .ok (.iload 5, 2) := by decide +kernel
theorem dX12_first_219 : decode cX12_first 219 = .ok (.iaload, 1) := by decide +kernel
theorem dX12_first_220 : decode cX12_first 220 = .ok (.aload_n 0, 1) := by decide +kernel
theorem dX12_first_221 : decode cX12_first 221 = .ok (.getfield 89, 3) := by decide +kernel
theorem dX12_first_224 : decode cX12_first 224 = .ok (.iload_n 3, 1) := by decide +kernel
theorem dX12_first_225 : decode cX12_first 225 = .ok (.iaload, 1) := by decide +kernel
theorem dX12_first_226 : decode cX12_first 226 = .ok (.if_icmp .ge 9, 3) := by decide +kernel
theorem dX12_first_229 : decode cX12_first 229 = .ok (.iload 5, 2) := by decide +kernel
theorem dX12_first_231 : decode cX12_first 231 = .ok (.istore_n 3, 1) := by decide +kernel
theorem dX12_first_232 : decode cX12_first 232 = .ok (.iconst 0, 1) := by decide +kernel
theorem dX12_first_233 : decode cX12_first 233 = .ok (.istore 4, 2) := by decide +kernel
theorem dX12_first_235 : decode cX12_first 235 = .ok (.iinc 4 1, 3) := by decide +kernel
theorem dX12_first_238 : decode cX12_first 238 = .ok (.iinc 5 1, 3) := by decide +kernel
theorem dX12_first_241 : decode cX12_first 241 = .ok (.goto (-77), 3) := by decide +kernel
theorem dX12_first_244 : decode cX12_first 244 = .ok (.iload_n 3, 1) := by decide +kernel
theorem dX12_first_245 : decode cX12_first 245 = .ok (.iconst (-1), 1) := by decide +kernel
theorem dX12_first_246 : decode cX12_first 246 = .ok (.if_icmp .ne 7, 3) := by decide +kernel
theorem dX12_first_249 : decode cX12_first 249 = .ok (.iconst (-1), 1) := by decide +kernel
theorem dX12_first_250 : decode cX12_first 250 = .ok (.goto 30, 3) := by decide +kernel
theorem dX12_first_253 : decode cX12_first 253 = .ok (.iload_n 2, 1) := by decide +kernel
theorem dX12_first_254 : decode cX12_first 254 = .ok (.ifCond .ne 12, 3) := by decide +kernel
theorem dX12_first_257 : decode cX12_first 257 = .ok (.aload_n 0, 1) := by decide +kernel
theorem dX12_first_258 : decode cX12_first 258 = .ok (.getfield 89, 3) := by decide +kernel
theorem dX12_first_261 : decode cX12_first 261 = .ok (.iload_n 3, 1) := by decide +kernel
theorem dX12_first_262 : decode cX12_first 262 = .ok (.iaload, 1) := by decide +kernel
theorem dX12_first_263 : decode cX12_first 263 = .ok (.goto 17, 3) := by decide +kernel
theorem dX12_first_266 : decode cX12_first 266 = .ok (.iload_n 2, 1) := by decide +kernel
theorem dX12_first_267 : decode cX12_first 267 = .ok (.iconst 1, 1) := by decide +kernel
theorem dX12_first_268 : decode cX12_first 268 = .ok (.if_icmp .ne 8, 3) := by decide +kernel
theorem dX12_first_271 : decode cX12_first 271 = .ok (.iload 4, 2) := by decide +kernel
theorem dX12_first_273 : decode cX12_first 273 = .ok (.goto 7, 3) := by decide +kernel
theorem dX12_first_276 : decode cX12_first 276 = .ok (.iload_n 3, 1) := by decide +kernel
theorem dX12_first_277 : decode cX12_first 277 = .ok (.invokestatic 359, 3) := by decide +kernel
theorem dX12_first_280 : decode cX12_first 280 = .ok (.ireturn, 1) := by decide +kernel
theorem dX12_isTree_0 : decode cX12_isTree 0 = .ok (.iconst 0, 1) := by decide +kernel
theorem dX12_isTree_1 : decode cX12_isTree 1 = .ok (.istore_n 2, 1) := by decide +kernel
theorem dX12_isTree_2 : decode cX12_isTree 2 = .ok (.iconst 0, 1) := by decide +kernel
theorem dX12_isTree_3 : decode cX12_isTree 3 = .ok (.istore_n 3, 1) := by decide +kernel
theorem dX12_isTree_4 : decode cX12_isTree 4 = .ok (.iload_n 3, 1) := by decide +kernel
theorem dX12_isTree_5 : decode cX12_isTree 5 = .ok (.iload_n 1, 1) := by decide +kernel
theorem dX12_isTree_6 : decode cX12_isTree 6 = .ok (.if_icmp .ge 27, 3) := by decide +kernel
theorem dX12_isTree_9 : decode cX12_isTree 9 = .ok (.iload_n 2, 1) := by decide +kernel
theorem dX12_isTree_10 : decode cX12_isTree 10 = .ok (.aload_n 0, 1) := by decide +kernel
theorem dX12_isTree_11 : decode cX12_isTree 11 = .ok (.getfield 98, 3) := by decide +kernel
theorem dX12_isTree_14 : decode cX12_isTree 14 = .ok (.iload_n 3, 1) := by decide +kernel
theorem dX12_isTree_15 : decode cX12_isTree 15 = .ok (.iaload, 1) := by decide +kernel
theorem dX12_isTree_16 : decode cX12_isTree 16 = .ok (.iconst (-1), 1) := by decide +kernel
theorem dX12_isTree_17 : decode cX12_isTree 17 = .ok (.if_icmp .ne 7, 3) := by decide +kernel
theorem dX12_isTree_20 : decode cX12_isTree 20 = .ok (.iconst 1, 1) := by decide +kernel
theorem dX12_isTree_21 : decode cX12_isTree 21 = .ok (.goto 4, 3) := by decide +kernel
theorem dX12_isTree_24 : decode cX12_isTree 24 = .ok (.iconst 0, 1) := by decide +kernel
theorem dX12_isTree_25 : decode cX12_isTree 25 = .ok (.iadd, 1) := by decide +kernel
theorem dX12_isTree_26 : decode cX12_isTree 26 = .ok (.istore_n 2, 1) := by decide +kernel
theorem dX12_isTree_27 : decode cX12_isTree 27 = .ok (.iinc 3 1, 3) := by decide +kernel
theorem dX12_isTree_30 : decode cX12_isTree 30 = .ok (.goto (-26), 3) := by decide +kernel
theorem dX12_isTree_33 : decode cX12_isTree 33 = .ok (.iload_n 2, 1) := by decide +kernel
theorem dX12_isTree_34 : decode cX12_isTree 34 = .ok (.iconst 1, 1) := by decide +kernel
theorem dX12_isTree_35 : decode cX12_isTree 35 = .ok (.if_icmp .eq 5, 3) := by decide +kernel
theorem dX12_isTree_38 : decode cX12_isTree 38 = .ok (.iconst 0, 1) := by decide +kernel
theorem dX12_isTree_39 : decode cX12_isTree 39 = .ok (.ireturn, 1) := by decide +kernel
theorem dX12_isTree_40 : decode cX12_isTree 40 = .ok (.iconst 0, 1) := by decide +kernel
theorem dX12_isTree_41 : decode cX12_isTree 41 = .ok (.istore_n 3, 1) := by decide +kernel
theorem dX12_isTree_42 : decode cX12_isTree 42 = .ok (.iload_n 3, 1) := by decide +kernel
theorem dX12_isTree_43 : decode cX12_isTree 43 = .ok (.iload_n 1, 1) := by decide +kernel
theorem dX12_isTree_44 : decode cX12_isTree 44 = .ok (.if_icmp .ge 60, 3) := by decide +kernel
theorem dX12_isTree_47 : decode cX12_isTree 47 = .ok (.iload_n 3, 1) := by decide +kernel
theorem dX12_isTree_48 : decode cX12_isTree 48 = .ok (.istore 4, 2) := by decide +kernel
theorem dX12_isTree_50 : decode cX12_isTree 50 = .ok (.iconst 0, 1) := by decide +kernel
theorem dX12_isTree_51 : decode cX12_isTree 51 = .ok (.istore 5, 2) := by decide +kernel
theorem dX12_isTree_53 : decode cX12_isTree 53 = .ok (.iload 5, 2) := by decide +kernel
theorem dX12_isTree_55 : decode cX12_isTree 55 = .ok (.iload_n 1, 1) := by decide +kernel
theorem dX12_isTree_56 : decode cX12_isTree 56 = .ok (.if_icmp .ge 29, 3) := by decide +kernel
theorem dX12_isTree_59 : decode cX12_isTree 59 = .ok (.aload_n 0, 1) := by decide +kernel
theorem dX12_isTree_60 : decode cX12_isTree 60 = .ok (.getfield 98, 3) := by decide +kernel
theorem dX12_isTree_63 : decode cX12_isTree 63 = .ok (.iload 4, 2) := by decide +kernel
theorem dX12_isTree_65 : decode cX12_isTree 65 = .ok (.iaload, 1) := by decide +kernel
theorem dX12_isTree_66 : decode cX12_isTree 66 = .ok (.iconst (-1), 1) := by decide +kernel
theorem dX12_isTree_67 : decode cX12_isTree 67 = .ok (.if_icmp .eq 18, 3) := by decide +kernel
theorem dX12_isTree_70 : decode cX12_isTree 70 = .ok (.aload_n 0, 1) := by decide +kernel
theorem dX12_isTree_71 : decode cX12_isTree 71 = .ok (.getfield 98, 3) := by decide +kernel
theorem dX12_isTree_74 : decode cX12_isTree 74 = .ok (.iload 4, 2) := by decide +kernel
theorem dX12_isTree_76 : decode cX12_isTree 76 = .ok (.iaload, 1) := by decide +kernel
theorem dX12_isTree_77 : decode cX12_isTree 77 = .ok (.istore 4, 2) := by decide +kernel
theorem dX12_isTree_79 : decode cX12_isTree 79 = .ok (.iinc 5 1, 3) := by decide +kernel
theorem dX12_isTree_82 : decode cX12_isTree 82 = .ok (.goto (-29), 3) := by decide +kernel
theorem dX12_isTree_85 : decode cX12_isTree 85 = .ok (.aload_n 0, 1) := by decide +kernel
theorem dX12_isTree_86 : decode cX12_isTree 86 = .ok (.getfield 98, 3) := by decide +kernel
theorem dX12_isTree_89 : decode cX12_isTree 89 = .ok (.iload 4, 2) := by decide +kernel
theorem dX12_isTree_91 : decode cX12_isTree 91 = .ok (.iaload, 1) := by decide +kernel
theorem dX12_isTree_92 : decode cX12_isTree 92 = .ok (.iconst (-1), 1) := by decide +kernel
theorem dX12_isTree_93 : decode cX12_isTree 93 = .ok (.if_icmp .eq 5, 3) := by decide +kernel
theorem dX12_isTree_96 : decode cX12_isTree 96 = .ok (.iconst 0, 1) := by decide +kernel
theorem dX12_isTree_97 : decode cX12_isTree 97 = .ok (.ireturn, 1) := by decide +kernel
theorem dX12_isTree_98 : decode cX12_isTree 98 = .ok (.iinc 3 1, 3) := by decide +kernel
theorem dX12_isTree_101 : decode cX12_isTree 101 = .ok (.goto (-59), 3) := by decide +kernel
theorem dX12_isTree_104 : decode cX12_isTree 104 = .ok (.iconst 1, 1) := by decide +kernel
theorem dX12_isTree_105 : decode cX12_isTree 105 = .ok (.ireturn, 1) := by decide +kernel
theorem dX12_lines_0 : decode cX12_lines 0 = .ok (.aload_n 0, 1) := by decide +kernel
theorem dX12_lines_1 : decode cX12_lines 1 = .ok (.iload_n 1, 1) := by decide +kernel
theorem dX12_lines_2 : decode cX12_lines 2 = .ok (.invokevirtual 387, 3) := by decide +kernel
theorem dX12_lines_5 : decode cX12_lines 5 = .ok (.ifCond .eq 26, 3) := by decide +kernel
theorem dX12_lines_8 : decode cX12_lines 8 = .ok (.iload_n 1, 1) := by decide +kernel
theorem dX12_lines_9 : decode cX12_lines 9 = .ok (.invokestatic 396, 3) := by decide +kernel
theorem dX12_lines_12 : decode cX12_lines 12 = .ok (.bipush 6, 2) := by decide +kernel
theorem dX12_lines_14 : decode cX12_lines 14 = .ok (.if_icmp .gt 17, 3) := by decide +kernel
theorem dX12_lines_17 : decode cX12_lines 17 = .ok (.iload_n 2, 1) := by decide +kernel
theorem dX12_lines_18 : decode cX12_lines 18 = .ok (.iconst 0, 1) := by decide +kernel
theorem dX12_lines_19 : decode cX12_lines 19 = .ok (.iconst 1, 1) := by decide +kernel
theorem dX12_lines_20 : decode cX12_lines 20 = .ok (.iload_n 1, 1) := by decide +kernel
theorem dX12_lines_21 : decode cX12_lines 21 = .ok (.invokestatic 396, 3) := by decide +kernel
theorem dX12_lines_24 : decode cX12_lines 24 = .ok (.iadd, 1) := by decide +kernel
theorem dX12_lines_25 : decode cX12_lines 25 = .ok (.invokestatic 123, 3) := by decide +kernel
theorem dX12_lines_28 : decode cX12_lines 28 = .ok (.ifCond .ne 5, 3) := by decide +kernel
theorem dX12_lines_31 : decode cX12_lines 31 = .ok (.iconst (-1), 1) := by decide +kernel
theorem dX12_lines_32 : decode cX12_lines 32 = .ok (.ireturn, 1) := by decide +kernel
theorem dX12_lines_33 : decode cX12_lines 33 = .ok (.iconst 0, 1) := by decide +kernel
theorem dX12_lines_34 : decode cX12_lines 34 = .ok (.istore_n 3, 1) := by decide +kernel
theorem dX12_lines_35 : decode cX12_lines 35 = .ok (.iconst 0, 1) := by decide +kernel
theorem dX12_lines_36 : decode cX12_lines 36 = .ok (.istore 4, 2) := by decide +kernel
theorem dX12_lines_38 : decode cX12_lines 38 = .ok (.iload 4, 2) := by decide +kernel
theorem dX12_lines_40 : decode cX12_lines 40 = .ok (.aload_n 0, 1) := by decide +kernel
theorem dX12_lines_41 : decode cX12_lines 41 = .ok (.getfield 20, 3) := by decide +kernel
theorem dX12_lines_44 : decode cX12_lines 44 = .ok (.bipush 56, 2) := by decide +kernel
theorem dX12_lines_46 : decode cX12_lines 46 = .ok (.iaload, 1) := by decide +kernel
theorem dX12_lines_47 : decode cX12_lines 47 = .ok (.if_icmp .ge 32, 3) := by decide +kernel
theorem dX12_lines_50 : decode cX12_lines 50 = .ok (.iload_n 1, 1) := by decide +kernel
theorem dX12_lines_51 : decode cX12_lines 51 = .ok (.iload 4, 2) := by decide +kernel
theorem dX12_lines_53 : decode cX12_lines 53 = .ok (.invokestatic 390, 3) := by decide +kernel
theorem dX12_lines_56 : decode cX12_lines 56 = .ok (.ifCond .ne 6, 3) := by decide +kernel
theorem dX12_lines_59 : decode cX12_lines 59 = .ok (.goto 14, 3) := by decide +kernel
theorem dX12_lines_62 : decode cX12_lines 62 = .ok (.aload_n 0, 1) := by decide +kernel
theorem dX12_lines_63 : decode cX12_lines 63 = .ok (.getfield 92, 3) := by decide +kernel
theorem dX12_lines_66 : decode cX12_lines 66 = .ok (.iload_n 3, 1) := by decide +kernel
theorem dX12_lines_67 : decode cX12_lines 67 = .ok (.iload 4, 2) := by decide +kernel
theorem dX12_lines_69 : decode cX12_lines 69 = .ok (.iastore, 1) := by decide +kernel
theorem dX12_lines_70 : decode cX12_lines 70 = .ok (.iinc 3 1, 3) := by decide +kernel
theorem dX12_lines_73 : decode cX12_lines 73 = .ok (.iinc 4 1, 3) := by decide +kernel
theorem dX12_lines_76 : decode cX12_lines 76 = .ok (.goto (-38), 3) := by decide +kernel
theorem dX12_lines_79 : decode cX12_lines 79 = .ok (.iconst 0, 1) := by decide +kernel
theorem dX12_lines_80 : decode cX12_lines 80 = .ok (.istore 4, 2) := by decide +kernel
theorem dX12_lines_82 : decode cX12_lines 82 = .ok (.iload 4, 2) := by decide +kernel
theorem dX12_lines_84 : decode cX12_lines 84 = .ok (.iload_n 3, 1) := by decide +kernel
theorem dX12_lines_85 : decode cX12_lines 85 = .ok (.if_icmp .ge 76, 3) := by decide +kernel
theorem dX12_lines_88 : decode cX12_lines 88 = .ok (.aload_n 0, 1) := by decide +kernel
theorem dX12_lines_89 : decode cX12_lines 89 = .ok (.aload_n 0, 1) := by decide +kernel
theorem dX12_lines_90 : decode cX12_lines 90 = .ok (.aload_n 0, 1) := by decide +kernel
theorem dX12_lines_91 : decode cX12_lines 91 = .ok (.getfield 92, 3) := by decide +kernel
theorem dX12_lines_94 : decode cX12_lines 94 = .ok (.iload 4, 2) := by decide +kernel
theorem dX12_lines_96 : decode cX12_lines 96 = .ok (.iaload, 1) := by decide +kernel
theorem dX12_lines_97 : decode cX12_lines 97 = .ok (.iconst 2, 1) := by decide +kernel
theorem dX12_lines_98 : decode cX12_lines 98 = .ok (.invokevirtual 194, 3) := by decide +kernel
theorem dX12_lines_101 : decode cX12_lines 101 = .ok (.invokestatic 362, 3) := by decide +kernel
theorem dX12_lines_104 : decode cX12_lines 104 = .ok (.invokevirtual 368, 3) := by decide +kernel
theorem dX12_lines_107 : decode cX12_lines 107 = .ok (.iconst 0, 1) := by decide +kernel
theorem dX12_lines_108 : decode cX12_lines 108 = .ok (.istore 5, 2) := by decide +kernel
theorem dX12_lines_110 : decode cX12_lines 110 = .ok (.iload 5, 2) := by decide +kernel
theorem dX12_lines_112 : decode cX12_lines 112 = .ok (.iload_n 3, 1) := by decide +kernel
theorem dX12_lines_113 : decode cX12_lines 113 = .ok (.if_icmp .ge 42, 3) := by decide +kernel
theorem dX12_lines_116 : decode cX12_lines 116 = .ok (.aload_n 0, 1) := by decide +kernel
theorem dX12_lines_117 : decode cX12_lines 117 = .ok (.getfield 95, 3) := by decide +kernel
theorem dX12_lines_120 : decode cX12_lines 120 = .ok (.bipush 6, 2) := by decide +kernel
theorem dX12_lines_122 : decode cX12_lines 122 = .ok (.iload 4, 2) := by decide +kernel
theorem dX12_lines_124 : decode cX12_lines 124 = .ok (.imul, 1) := by decide +kernel
theorem dX12_lines_125 : decode cX12_lines 125 = .ok (.iload 5, 2) := by decide +kernel
theorem dX12_lines_127 : decode cX12_lines 127 = .ok (.iadd, 1) := by decide +kernel
theorem dX12_lines_128 : decode cX12_lines 128 = .ok (.aload_n 0, 1) := by decide +kernel
theorem dX12_lines_129 : decode cX12_lines 129 = .ok (.getfield 77, 3) := by decide +kernel
theorem dX12_lines_132 : decode cX12_lines 132 = .ok (.aload_n 0, 1) := by decide +kernel
theorem dX12_lines_133 : decode cX12_lines 133 = .ok (.aload_n 0, 1) := by decide +kernel
theorem dX12_lines_134 : decode cX12_lines 134 = .ok (.getfield 92, 3) := by decide +kernel
theorem dX12_lines_137 : decode cX12_lines 137 = .ok (.iload 5, 2) := by decide +kernel
theorem dX12_lines_139 : decode cX12_lines 139 = .ok (.iaload, 1) := by decide +kernel
theorem dX12_lines_140 : decode cX12_lines 140 = .ok (.iconst 2, 1) := by decide +kernel
theorem dX12_lines_141 : decode cX12_lines 141 = .ok (.invokevirtual 194, 3) := by decide +kernel
theorem dX12_lines_144 : decode cX12_lines 144 = .ok (.invokestatic 362, 3) := by decide +kernel
theorem dX12_lines_147 : decode cX12_lines 147 = .ok (.iaload, 1) := by decide +kernel
theorem dX12_lines_148 : decode cX12_lines 148 = .ok (.iastore, 1) := by decide +kernel
theorem dX12_lines_149 : decode cX12_lines 149 = .ok (.iinc 5 1, 3) := by decide +kernel
theorem dX12_lines_152 : decode cX12_lines 152 = .ok (.goto (-42), 3) := by decide +kernel
theorem dX12_lines_155 : decode cX12_lines 155 = .ok (.iinc 4 1, 3) := by decide +kernel
theorem dX12_lines_158 : decode cX12_lines 158 = .ok (.goto (-76), 3) := by decide +kernel
theorem dX12_lines_161 : decode cX12_lines 161 = .ok (.iconst 1, 1) := by decide +kernel
theorem dX12_lines_162 : decode cX12_lines 162 = .ok (.istore 4, 2) := by decide +kernel
theorem dX12_lines_164 : decode cX12_lines 164 = .ok (.iconst 0, 1) := by decide +kernel
theorem dX12_lines_165 : decode cX12_lines 165 = .ok (.istore 5, 2) := by decide +kernel
theorem dX12_lines_167 : decode cX12_lines 167 = .ok (.iload 5, 2) := by decide +kernel
theorem dX12_lines_169 : decode cX12_lines 169 = .ok (.iload_n 3, 1) := by decide +kernel
theorem dX12_lines_170 : decode cX12_lines 170 = .ok (.if_icmp .ge 17, 3) := by decide +kernel
theorem dX12_lines_173 : decode cX12_lines 173 = .ok (.iload 4, 2) := by decide +kernel
theorem dX12_lines_175 : decode cX12_lines 175 = .ok (.iload_n 3, 1) := by decide +kernel
theorem dX12_lines_176 : decode cX12_lines 176 = .ok (.iconst 1, 1) := by decide +kernel
theorem dX12_lines_177 : decode cX12_lines 177 = .ok (.iadd, 1) := by decide +kernel
theorem dX12_lines_178 : decode cX12_lines 178 = .ok (.imul, 1) := by decide +kernel
theorem dX12_lines_179 : decode cX12_lines 179 = .ok (.istore 4, 2) := by decide +kernel
theorem dX12_lines_181 : decode cX12_lines 181 = .ok (.iinc 5 1, 3) := by decide +kernel
theorem dX12_lines_184 : decode cX12_lines 184 = .ok (.goto (-17), 3) := by decide +kernel
theorem dX12_lines_187 : decode cX12_lines 187 = .ok (.ldc 229, 2) := by decide +kernel
theorem dX12_lines_189 : decode cX12_lines 189 = .ok (.istore 5, 2) := by decide +kernel
theorem dX12_lines_191 : decode cX12_lines 191 = .ok (.iconst 0, 1) := by decide +kernel
theorem dX12_lines_192 : decode cX12_lines 192 = .ok (.istore 6, 2) := by decide +kernel
theorem dX12_lines_194 : decode cX12_lines 194 = .ok (.iconst 0, 1) := by decide +kernel
theorem dX12_lines_195 : decode cX12_lines 195 = .ok (.istore 7, 2) := by decide +kernel
theorem dX12_lines_197 : decode cX12_lines 197 = .ok (.iload 7, 2) := by decide +kernel
theorem dX12_lines_199 : decode cX12_lines 199 = .ok (.iload 4, 2) := by decide +kernel
theorem dX12_lines_201 : decode cX12_lines 201 = .ok (.if_icmp .ge 181, 3) := by decide +kernel
theorem dX12_lines_204 : decode cX12_lines 204 = .ok (.iload 7, 2) := by decide +kernel
theorem dX12_lines_206 : decode cX12_lines 206 = .ok (.istore 8, 2) := by decide +kernel
theorem dX12_lines_208 : decode cX12_lines 208 = .ok (.iconst 0, 1) := by decide +kernel
theorem dX12_lines_209 : decode cX12_lines 209 = .ok (.istore 9, 2) := by decide +kernel
theorem dX12_lines_211 : decode cX12_lines 211 = .ok (.iload_n 3, 1) := by decide +kernel
theorem dX12_lines_212 : decode cX12_lines 212 = .ok (.iconst 1, 1) := by decide +kernel
theorem dX12_lines_213 : decode cX12_lines 213 = .ok (.isub, 1) := by decide +kernel
theorem dX12_lines_214 : decode cX12_lines 214 = .ok (.istore 10, 2) := by decide +kernel
theorem dX12_lines_216 : decode cX12_lines 216 = .ok (.iload 10, 2) := by decide +kernel
theorem dX12_lines_218 : decode cX12_lines 218 = .ok (.ifCond .lt 87, 3) := by decide +kernel
theorem dX12_lines_221 : decode cX12_lines 221 = .ok (.aload_n 0, 1) := by decide +kernel
theorem dX12_lines_222 : decode cX12_lines 222 = .ok (.getfield 98, 3) := by decide +kernel
theorem dX12_lines_225 : decode cX12_lines 225 = .ok (.iload 10, 2) := by decide +kernel
theorem dX12_lines_227 : decode cX12_lines 227 = .ok (.iload 8, 2) := by decide +kernel
theorem dX12_lines_229 : decode cX12_lines 229 = .ok (.iload_n 3, 1) := by decide +kernel
theorem dX12_lines_230 : decode cX12_lines 230 = .ok (.iconst 1, 1) := by decide +kernel
theorem dX12_lines_231 : decode cX12_lines 231 = .ok (.iadd, 1) := by decide +kernel
theorem dX12_lines_232 : decode cX12_lines 232 = .ok (.irem, 1) := by decide +kernel
theorem dX12_lines_233 : decode cX12_lines 233 = .ok (.iconst 1, 1) := by decide +kernel
theorem dX12_lines_234 : decode cX12_lines 234 = .ok (.isub, 1) := by decide +kernel
theorem dX12_lines_235 : decode cX12_lines 235 = .ok (.iastore, 1) := by decide +kernel
theorem dX12_lines_236 : decode cX12_lines 236 = .ok (.iload 8, 2) := by decide +kernel
theorem dX12_lines_238 : decode cX12_lines 238 = .ok (.iload_n 3, 1) := by decide +kernel
theorem dX12_lines_239 : decode cX12_lines 239 = .ok (.iconst 1, 1) := by decide +kernel
theorem dX12_lines_240 : decode cX12_lines 240 = .ok (.iadd, 1) := by decide +kernel
theorem dX12_lines_241 : decode cX12_lines 241 = .ok (.idiv, 1) := by decide +kernel
theorem dX12_lines_242 : decode cX12_lines 242 = .ok (.istore 8, 2) := by decide +kernel
theorem dX12_lines_244 : decode cX12_lines 244 = .ok (.iload 9, 2) := by decide +kernel
theorem dX12_lines_246 : decode cX12_lines 246 = .ok (.aload_n 0, 1) := by decide +kernel
theorem dX12_lines_247 : decode cX12_lines 247 = .ok (.getfield 98, 3) := by decide +kernel
theorem dX12_lines_250 : decode cX12_lines 250 = .ok (.iload 10, 2) := by decide +kernel
theorem dX12_lines_252 : decode cX12_lines 252 = .ok (.iaload, 1) := by decide +kernel
theorem dX12_lines_253 : decode cX12_lines 253 = .ok (.iconst (-1), 1) := by decide +kernel
theorem dX12_lines_254 : decode cX12_lines 254 = .ok (.if_icmp .ne 7, 3) := by decide +kernel
theorem dX12_lines_257 : decode cX12_lines 257 = .ok (.iconst 0, 1) := by decide +kernel
theorem dX12_lines_258 : decode cX12_lines 258 = .ok (.goto 38, 3) := by decide +kernel
theorem dX12_lines_261 : decode cX12_lines 261 = .ok (.aload_n 0, 1) := by decide +kernel
theorem dX12_lines_262 : decode cX12_lines 262 = .ok (.getfield 98, 3) := by decide +kernel
theorem dX12_lines_265 : decode cX12_lines 265 = .ok (.iload 10, 2) := by decide +kernel
theorem dX12_lines_267 : decode cX12_lines 267 = .ok (.iaload, 1) := by decide +kernel
theorem dX12_lines_268 : decode cX12_lines 268 = .ok (.iload 10, 2) := by decide +kernel
theorem dX12_lines_270 : decode cX12_lines 270 = .ok (.if_icmp .ne 8, 3) := by decide +kernel
theorem dX12_lines_273 : decode cX12_lines 273 = .ok (.ldc 229, 2) := by decide +kernel
theorem dX12_lines_275 : decode cX12_lines 275 = .ok (.goto 21, 3) := by decide +kernel
theorem dX12_lines_278 : decode cX12_lines 278 = .ok (.aload_n 0, 1) := by decide +kernel
theorem dX12_lines_279 : decode cX12_lines 279 = .ok (.getfield 95, 3) := by decide +kernel
theorem dX12_lines_282 : decode cX12_lines 282 = .ok (.bipush 6, 2) := by decide +kernel
theorem dX12_lines_284 : decode cX12_lines 284 = .ok (.aload_n 0, 1) := by decide +kernel
theorem dX12_lines_285 : decode cX12_lines 285 = .ok (.getfield 98, 3) := by decide +kernel
theorem dX12_lines_288 : decode cX12_lines 288 = .ok (.iload 10, 2) := by decide +kernel
theorem dX12_lines_290 : decode cX12_lines 290 = .ok (.iaload, 1) := by decide +kernel
theorem dX12_lines_291 : decode cX12_lines 291 = .ok (.imul, 1) := by decide +kernel
theorem dX12_lines_292 : decode cX12_lines 292 = .ok (.iload 10, 2) := by decide +kernel
theorem dX12_lines_294 : decode cX12_lines 294 = .ok (.iadd, 1) := by decide +kernel
theorem dX12_lines_295 : decode cX12_lines 295 = .ok (.iaload, 1) := by decide +kernel
theorem dX12_lines_296 : decode cX12_lines 296 = .ok (.iadd, 1) := by decide +kernel
theorem dX12_lines_297 : decode cX12_lines 297 = .ok (.istore 9, 2) := by decide +kernel
theorem dX12_lines_299 : decode cX12_lines 299 = .ok (.iinc 10 (-1), 3) := by decide +kernel
theorem dX12_lines_302 : decode cX12_lines 302 = .ok (.goto (-86), 3) := by decide +kernel
theorem dX12_lines_305 : decode cX12_lines 305 = .ok (.iload 9, 2) := by decide +kernel
theorem dX12_lines_307 : decode cX12_lines 307 = .ok (.ldc 229, 2) := by decide +kernel
theorem dX12_lines_309 : decode cX12_lines 309 = .ok (.if_icmp .ge 67, 3) := by decide +kernel
theorem dX12_lines_312 : decode cX12_lines 312 = .ok (.iload 9, 2) := by decide +kernel
theorem dX12_lines_314 : decode cX12_lines 314 = .ok (.iload 5, 2) := by decide +kernel
theorem dX12_lines_316 : decode cX12_lines 316 = .ok (.if_icmp .gt 60, 3) := by decide +kernel
theorem dX12_lines_319 : decode cX12_lines 319 = .ok (.aload_n 0, 1) := by decide +kernel
theorem dX12_lines_320 : decode cX12_lines 320 = .ok (.iload_n 3, 1) := by decide +kernel
theorem dX12_lines_321 : decode cX12_lines 321 = .ok (.invokevirtual 399, 3) := by decide +kernel
theorem dX12_lines_324 : decode cX12_lines 324 = .ok (.ifCond .ne 6, 3) := by decide +kernel
theorem dX12_lines_327 : decode cX12_lines 327 = .ok (.goto 49, 3) := by decide +kernel
theorem dX12_lines_330 : decode cX12_lines 330 = .ok (.iload 9, 2) := by decide +kernel
theorem dX12_lines_332 : decode cX12_lines 332 = .ok (.iload 5, 2) := by decide +kernel
theorem dX12_lines_334 : decode cX12_lines 334 = .ok (.if_icmp .ge 39, 3) := by decide +kernel
theorem dX12_lines_337 : decode cX12_lines 337 = .ok (.iload 9, 2) := by decide +kernel
theorem dX12_lines_339 : decode cX12_lines 339 = .ok (.istore 5, 2) := by decide +kernel
theorem dX12_lines_341 : decode cX12_lines 341 = .ok (.iconst 0, 1) := by decide +kernel
theorem dX12_lines_342 : decode cX12_lines 342 = .ok (.istore 6, 2) := by decide +kernel
theorem dX12_lines_344 : decode cX12_lines 344 = .ok (.iconst 0, 1) := by decide +kernel
theorem dX12_lines_345 : decode cX12_lines 345 = .ok (.istore 10, 2) := by decide +kernel
theorem dX12_lines_347 : decode cX12_lines 347 = .ok (.iload 10, 2) := by decide +kernel
theorem dX12_lines_349 : decode cX12_lines 349 = .ok (.iload_n 3, 1) := by decide +kernel
theorem dX12_lines_350 : decode cX12_lines 350 = .ok (.if_icmp .ge 23, 3) := by decide +kernel
theorem dX12_lines_353 : decode cX12_lines 353 = .ok (.aload_n 0, 1) := by decide +kernel
theorem dX12_lines_354 : decode cX12_lines 354 = .ok (.getfield 101, 3) := by decide +kernel
theorem dX12_lines_357 : decode cX12_lines 357 = .ok (.iload 10, 2) := by decide +kernel
theorem dX12_lines_359 : decode cX12_lines 359 = .ok (.aload_n 0, 1) := by decide +kernel
theorem dX12_lines_360 : decode cX12_lines 360 = .ok (.getfield 98, 3) := by decide +kernel
theorem dX12_lines_363 : decode cX12_lines 363 = .ok (.iload 10, 2) := by decide +kernel
theorem dX12_lines_365 : decode cX12_lines 365 = .ok (.iaload, 1) := by decide +kernel
theorem dX12_lines_366 : decode cX12_lines 366 = .ok (.iastore, 1) := by decide +kernel
theorem dX12_lines_367 : decode cX12_lines 367 = .ok (.iinc 10 1, 3) := by decide +kernel
theorem dX12_lines_370 : decode cX12_lines 370 = .ok (.goto (-23), 3) := by decide +kernel
theorem dX12_lines_373 : decode cX12_lines 373 = .ok (.iinc 6 1, 3) := by decide +kernel
theorem dX12_lines_376 : decode cX12_lines 376 = .ok (.iinc 7 1, 3) := by decide +kernel
theorem dX12_lines_379 : decode cX12_lines 379 = .ok (.goto (-182), 3) := by decide +kernel
theorem dX12_lines_382 : decode cX12_lines 382 = .ok (.iload 6, 2) := by decide +kernel
theorem dX12_lines_384 : decode cX12_lines 384 = .ok (.ifCond .ne 5, 3) := by decide +kernel
theorem dX12_lines_387 : decode cX12_lines 387 = .ok (.iconst (-1), 1) := by decide +kernel
theorem dX12_lines_388 : decode cX12_lines 388 = .ok (.ireturn, 1) := by decide +kernel
theorem dX12_lines_389 : decode cX12_lines 389 = .ok (.iload_n 2, 1) := by decide +kernel
theorem dX12_lines_390 : decode cX12_lines 390 = .ok (.ifCond .ne 8, 3) := by decide +kernel
theorem dX12_lines_393 : decode cX12_lines 393 = .ok (.iload 5, 2) := by decide +kernel
theorem dX12_lines_395 : decode cX12_lines 395 = .ok (.goto 43, 3) := by decide +kernel
theorem dX12_lines_398 : decode cX12_lines 398 = .ok (.iload_n 2, 1) := by decide +kernel
theorem dX12_lines_399 : decode cX12_lines 399 = .ok (.iconst 1, 1) := by decide +kernel
theorem dX12_lines_400 : decode cX12_lines 400 = .ok (.if_icmp .ne 8, 3) := by decide +kernel
theorem dX12_lines_403 : decode cX12_lines 403 = .ok (.iload 6, 2) := by decide +kernel
theorem dX12_lines_405 : decode cX12_lines 405 = .ok (.goto 33, 3) := by decide +kernel
theorem dX12_lines_408 : decode cX12_lines 408 = .ok (.aload_n 0, 1) := by decide +kernel
theorem dX12_lines_409 : decode cX12_lines 409 = .ok (.getfield 101, 3) := by decide +kernel
theorem dX12_lines_412 : decode cX12_lines 412 = .ok (.iload_n 2, 1) := by decide +kernel
theorem dX12_lines_413 : decode cX12_lines 413 = .ok (.iconst 2, 1) := by decide +kernel
theorem dX12_lines_414 : decode cX12_lines 414 = .ok (.isub, 1) := by decide +kernel
theorem dX12_lines_415 : decode cX12_lines 415 = .ok (.iaload, 1) := by decide +kernel
theorem dX12_lines_416 : decode cX12_lines 416 = .ok (.iconst (-1), 1) := by decide +kernel
theorem dX12_lines_417 : decode cX12_lines 417 = .ok (.if_icmp .ne 8, 3) := by decide +kernel
theorem dX12_lines_420 : decode cX12_lines 420 = .ok (.bipush 100, 2) := by decide +kernel
theorem dX12_lines_422 : decode cX12_lines 422 = .ok (.goto 16, 3) := by decide +kernel
theorem dX12_lines_425 : decode cX12_lines 425 = .ok (.aload_n 0, 1) := by decide +kernel
theorem dX12_lines_426 : decode cX12_lines 426 = .ok (.getfield 92, 3) := by decide +kernel
theorem dX12_lines_429 : decode cX12_lines 429 = .ok (.aload_n 0, 1) := by decide +kernel
theorem dX12_lines_430 : decode cX12_lines 430 = .ok (.getfield 101, 3) := by decide +kernel
theorem dX12_lines_433 : decode cX12_lines 433 = .ok (.iload_n 2, 1) := by decide +kernel
theorem dX12_lines_434 : decode cX12_lines 434 = .ok (.iconst 2, 1) := by decide +kernel
theorem dX12_lines_435 : decode cX12_lines 435 = .ok (.isub, 1) := by decide +kernel
theorem dX12_lines_436 : decode cX12_lines 436 = .ok (.iaload, 1) := by decide +kernel
theorem dX12_lines_437 : decode cX12_lines 437 = .ok (.iaload, 1) := by decide +kernel
theorem dX12_lines_438 : decode cX12_lines 438 = .ok (.ireturn, 1) := by decide +kernel
theorem dX12_parts_0 : decode cX12_parts 0 = .ok (.iconst 0, 1) := by decide +kernel
theorem dX12_parts_1 : decode cX12_parts 1 = .ok (.istore_n 3, 1) := by decide +kernel
theorem dX12_parts_2 : decode cX12_parts 2 = .ok (.iload_n 3, 1) := by decide +kernel
theorem dX12_parts_3 : decode cX12_parts 3 = .ok (.sipush 9331, 3) := by decide +kernel
theorem dX12_parts_6 : decode cX12_parts 6 = .ok (.if_icmp .ge 16, 3) := by decide +kernel
theorem dX12_parts_9 : decode cX12_parts 9 = .ok (.aload_n 0, 1) := by decide +kernel
theorem dX12_parts_10 : decode cX12_parts 10 = .ok (.getfield 104, 3) := by decide +kernel
theorem dX12_parts_13 : decode cX12_parts 13 = .ok (.iload_n 3, 1) := by decide +kernel
theorem dX12_parts_14 : decode cX12_parts 14 = .ok (.lconst 0, 1) := by decide +kernel
theorem dX12_parts_15 : decode cX12_parts 15 = .ok (.lastore, 1) := by decide +kernel
theorem dX12_parts_16 : decode cX12_parts 16 = .ok (.iinc 3 1, 3) := by decide +kernel
theorem dX12_parts_19 : decode cX12_parts 19 = .ok (.goto (-17), 3) := by decide +kernel
theorem dX12_parts_22 : decode cX12_parts 22 = .ok (.aload_n 0, 1) := by decide +kernel
theorem dX12_parts_23 : decode cX12_parts 23 = .ok (.getfield 104, 3) := by decide +kernel
theorem dX12_parts_26 : decode cX12_parts 26 = .ok (.iload_n 1, 1) := by decide +kernel
theorem dX12_parts_27 : decode cX12_parts 27 = .ok (.invokestatic 362, 3) := by decide +kernel
theorem dX12_parts_30 : decode cX12_parts 30 = .ok (.ldc2_w 402, 3) := by decide +kernel
theorem dX12_parts_33 : decode cX12_parts 33 = .ok (.lastore, 1) := by decide +kernel
theorem dX12_parts_34 : decode cX12_parts 34 = .ok (.iconst 0, 1) := by decide +kernel
theorem dX12_parts_35 : decode cX12_parts 35 = .ok (.istore_n 3, 1) := by decide +kernel
theorem dX12_parts_36 : decode cX12_parts 36 = .ok (.iload_n 3, 1) := by decide +kernel
theorem dX12_parts_37 : decode cX12_parts 37 = .ok (.iload_n 2, 1) := by decide +kernel
theorem dX12_parts_38 : decode cX12_parts 38 = .ok (.if_icmp .ge 230, 3) := by decide +kernel
theorem dX12_parts_41 : decode cX12_parts 41 = .ok (.iconst 0, 1) := by decide +kernel
theorem dX12_parts_42 : decode cX12_parts 42 = .ok (.istore 4, 2) := by decide +kernel
theorem dX12_parts_44 : decode cX12_parts 44 = .ok (.iload 4, 2) := by decide +kernel
theorem dX12_parts_46 : decode cX12_parts 46 = .ok (.sipush 9331, 3) := by decide +kernel
theorem dX12_parts_49 : decode cX12_parts 49 = .ok (.if_icmp .ge 17, 3) := by decide +kernel
theorem dX12_parts_52 : decode cX12_parts 52 = .ok (.aload_n 0, 1) := by decide +kernel
theorem dX12_parts_53 : decode cX12_parts 53 = .ok (.getfield 108, 3) := by decide +kernel
theorem dX12_parts_56 : decode cX12_parts 56 = .ok (.iload 4, 2) := by decide +kernel
theorem dX12_parts_58 : decode cX12_parts 58 = .ok (.lconst 0, 1) := by decide +kernel
theorem dX12_parts_59 : decode cX12_parts 59 = .ok (.lastore, 1) := by decide +kernel
theorem dX12_parts_60 : decode cX12_parts 60 = .ok (.iinc 4 1, 3) := by decide +kernel
theorem dX12_parts_63 : decode cX12_parts 63 = .ok (.goto (-19), 3) := by decide +kernel
theorem dX12_parts_66 : decode cX12_parts 66 = .ok (.iconst 0, 1) := by decide +kernel
theorem dX12_parts_67 : decode cX12_parts 67 = .ok (.istore 4, 2) := by decide +kernel
theorem dX12_parts_69 : decode cX12_parts 69 = .ok (.iload 4, 2) := by decide +kernel
theorem dX12_parts_71 : decode cX12_parts 71 = .ok (.sipush 9331, 3) := by decide +kernel
theorem dX12_parts_74 : decode cX12_parts 74 = .ok (.if_icmp .ge 157, 3) := by decide +kernel
theorem dX12_parts_77 : decode cX12_parts 77 = .ok (.aload_n 0, 1) := by decide +kernel
theorem dX12_parts_78 : decode cX12_parts 78 = .ok (.getfield 104, 3) := by decide +kernel
theorem dX12_parts_81 : decode cX12_parts 81 = .ok (.iload 4, 2) := by decide +kernel
theorem dX12_parts_83 : decode cX12_parts 83 = .ok (.laload, 1) := by decide +kernel
theorem dX12_parts_84 : decode cX12_parts 84 = .ok (.lconst 0, 1) := by decide +kernel
theorem dX12_parts_85 : decode cX12_parts 85 = .ok (.lcmp, 1) := by decide +kernel
theorem dX12_parts_86 : decode cX12_parts 86 = .ok (.ifCond .ne 6, 3) := by decide +kernel
theorem dX12_parts_89 : decode cX12_parts 89 = .ok (.goto 136, 3) := by decide +kernel
theorem dX12_parts_92 : decode cX12_parts 92 = .ok (.aload_n 0, 1) := by decide +kernel
theorem dX12_parts_93 : decode cX12_parts 93 = .ok (.iload 4, 2) := by decide +kernel
theorem dX12_parts_95 : decode cX12_parts 95 = .ok (.invokestatic 359, 3) := by decide +kernel
theorem dX12_parts_98 : decode cX12_parts 98 = .ok (.aload_n 0, 1) := by decide +kernel
theorem dX12_parts_99 : decode cX12_parts 99 = .ok (.getfield 20, 3) := by decide +kernel
theorem dX12_parts_102 : decode cX12_parts 102 = .ok (.bipush 54, 2) := by decide +kernel
theorem dX12_parts_104 : decode cX12_parts 104 = .ok (.iaload, 1) := by decide +kernel
theorem dX12_parts_105 : decode cX12_parts 105 = .ok (.iconst 1, 1) := by decide +kernel
theorem dX12_parts_106 : decode cX12_parts 106 = .ok (.invokevirtual 187, 3) := by decide +kernel
theorem dX12_parts_109 : decode cX12_parts 109 = .ok (.iconst 0, 1) := by decide +kernel
theorem dX12_parts_110 : decode cX12_parts 110 = .ok (.istore 5, 2) := by decide +kernel
theorem dX12_parts_112 : decode cX12_parts 112 = .ok (.iconst 0, 1) := by decide +kernel
theorem dX12_parts_113 : decode cX12_parts 113 = .ok (.istore 6, 2) := by decide +kernel
theorem dX12_parts_115 : decode cX12_parts 115 = .ok (.iload 6, 2) := by decide +kernel
theorem dX12_parts_117 : decode cX12_parts 117 = .ok (.aload_n 0, 1) := by decide +kernel
theorem dX12_parts_118 : decode cX12_parts 118 = .ok (.getfield 174, 3) := by decide +kernel
theorem dX12_parts_121 : decode cX12_parts 121 = .ok (.if_icmp .ge 21, 3) := by decide +kernel
theorem dX12_parts_124 : decode cX12_parts 124 = .ok (.iload 5, 2) := by decide +kernel
theorem dX12_parts_126 : decode cX12_parts 126 = .ok (.aload_n 0, 1) := by decide +kernel
theorem dX12_parts_127 : decode cX12_parts 127 = .ok (.getfield 36, 3) := by decide +kernel
theorem dX12_parts_130 : decode cX12_parts 130 = .ok (.iload 6, 2) := by decide +kernel
theorem dX12_parts_132 : decode cX12_parts 132 = .ok (.iaload, 1) := by decide +kernel
theorem dX12_parts_133 : decode cX12_parts 133 = .ok (.iadd, 1) := by decide +kernel
theorem dX12_parts_134 : decode cX12_parts 134 = .ok (.istore 5, 2) := by decide +kernel
theorem dX12_parts_136 : decode cX12_parts 136 = .ok (.iinc 6 1, 3) := by decide +kernel
theorem dX12_parts_139 : decode cX12_parts 139 = .ok (.goto (-24), 3) := by decide +kernel
theorem dX12_parts_142 : decode cX12_parts 142 = .ok (.iload 5, 2) := by decide +kernel
theorem dX12_parts_144 : decode cX12_parts 144 = .ok (.ifCond .ne 20, 3) := by decide +kernel
theorem dX12_parts_147 : decode cX12_parts 147 = .ok (.aload_n 0, 1) := by decide +kernel
theorem dX12_parts_148 : decode cX12_parts 148 = .ok (.getfield 108, 3) := by decide +kernel
theorem dX12_parts_151 : decode cX12_parts 151 = .ok (.iload 4, 2) := by decide +kernel
theorem dX12_parts_153 : decode cX12_parts 153 = .ok (.dup2, 1) := by decide +kernel
theorem dX12_parts_154 : decode cX12_parts 154 = .ok (.laload, 1) := by decide +kernel
theorem dX12_parts_155 : decode cX12_parts 155 = .ok (.aload_n 0, 1) := by decide +kernel
theorem dX12_parts_156 : decode cX12_parts 156 = .ok (.getfield 104, 3) := by decide +kernel
theorem dX12_parts_159 : decode cX12_parts 159 = .ok (.iload 4, 2) := by decide +kernel
theorem dX12_parts_161 : decode cX12_parts 161 = .ok (.laload, 1) := by decide +kernel
theorem dX12_parts_162 : decode cX12_parts 162 = .ok (.ladd, 1) := by decide +kernel
theorem dX12_parts_163 : decode cX12_parts 163 = .ok (.lastore, 1) := by decide +kernel
theorem dX12_parts_164 : decode cX12_parts 164 = .ok (.iconst 0, 1) := by decide +kernel
theorem dX12_parts_165 : decode cX12_parts 165 = .ok (.istore 6, 2) := by decide +kernel
theorem dX12_parts_167 : decode cX12_parts 167 = .ok (.iload 6, 2) := by decide +kernel
theorem dX12_parts_169 : decode cX12_parts 169 = .ok (.aload_n 0, 1) := by decide +kernel
theorem dX12_parts_170 : decode cX12_parts 170 = .ok (.getfield 174, 3) := by decide +kernel
theorem dX12_parts_173 : decode cX12_parts 173 = .ok (.if_icmp .ge 52, 3) := by decide +kernel
theorem dX12_parts_176 : decode cX12_parts 176 = .ok (.iload 5, 2) := by decide +kernel
theorem dX12_parts_178 : decode cX12_parts 178 = .ok (.ifCond .le 47, 3) := by decide +kernel
theorem dX12_parts_181 : decode cX12_parts 181 = .ok (.aload_n 0, 1) := by decide +kernel
theorem dX12_parts_182 : decode cX12_parts 182 = .ok (.getfield 108, 3) := by decide +kernel
theorem dX12_parts_185 : decode cX12_parts 185 = .ok (.aload_n 0, 1) := by decide +kernel
theorem dX12_parts_186 : decode cX12_parts 186 = .ok (.getfield 33, 3) := by decide +kernel
theorem dX12_parts_189 : decode cX12_parts 189 = .ok (.iload 6, 2) := by decide +kernel
theorem dX12_parts_191 : decode cX12_parts 191 = .ok (.iaload, 1) := by decide +kernel
theorem dX12_parts_192 : decode cX12_parts 192 = .ok (.invokestatic 362, 3) := by decide +kernel
theorem dX12_parts_195 : decode cX12_parts 195 = .ok (.dup2, 1) := by decide +kernel
theorem dX12_parts_196 : decode cX12_parts 196 = .ok (.laload, 1) := by decide +kernel
theorem dX12_parts_197 : decode cX12_parts 197 = .ok (.aload_n 0, 1) := by decide +kernel
theorem dX12_parts_198 : decode cX12_parts 198 = .ok (.getfield 104, 3) := by decide +kernel
theorem dX12_parts_201 : decode cX12_parts 201 = .ok (.iload 4, 2) := by decide +kernel
theorem dX12_parts_203 : decode cX12_parts 203 = .ok (.laload, 1) := by decide +kernel
theorem dX12_parts_204 : decode cX12_parts 204 = .ok (.aload_n 0, 1) := by decide +kernel
theorem dX12_parts_205 : decode cX12_parts 205 = .ok (.getfield 36, 3) := by decide +kernel
theorem dX12_parts_208 : decode cX12_parts 208 = .ok (.iload 6, 2) := by decide +kernel
theorem dX12_parts_210 : decode cX12_parts 210 = .ok (.iaload, 1) := by decide +kernel
theorem dX12_parts_211 : decode cX12_parts 211 = .ok (.i2l, 1) := by decide +kernel
theorem dX12_parts_212 : decode cX12_parts 212 = .ok (.lmul, 1) := by decide +kernel
theorem dX12_parts_213 : decode cX12_parts 213 = .ok (.iload 5, 2) := by decide +kernel
theorem dX12_parts_215 : decode cX12_parts 215 = .ok (.i2l, 1) := by decide +kernel
theorem dX12_parts_216 : decode cX12_parts 216 = .ok (.ldiv, 1) := by decide +kernel
theorem dX12_parts_217 : decode cX12_parts 217 = .ok (.ladd, 1) := by decide +kernel
theorem dX12_parts_218 : decode cX12_parts 218 = .ok (.lastore, 1) := by decide +kernel
theorem dX12_parts_219 : decode cX12_parts 219 = .ok (.iinc 6 1, 3) := by decide +kernel
theorem dX12_parts_222 : decode cX12_parts 222 = .ok (.goto (-55), 3) := by decide +kernel
theorem dX12_parts_225 : decode cX12_parts 225 = .ok (.iinc 4 1, 3) := by decide +kernel
theorem dX12_parts_228 : decode cX12_parts 228 = .ok (.goto (-159), 3) := by decide +kernel
theorem dX12_parts_231 : decode cX12_parts 231 = .ok (.iconst 0, 1) := by decide +kernel
theorem dX12_parts_232 : decode cX12_parts 232 = .ok (.istore 4, 2) := by decide +kernel
theorem dX12_parts_234 : decode cX12_parts 234 = .ok (.iload 4, 2) := by decide +kernel
theorem dX12_parts_236 : decode cX12_parts 236 = .ok (.sipush 9331, 3) := by decide +kernel
theorem dX12_parts_239 : decode cX12_parts 239 = .ok (.if_icmp .ge 23, 3) := by decide +kernel
theorem dX12_parts_242 : decode cX12_parts 242 = .ok (.aload_n 0, 1) := by decide +kernel
theorem dX12_parts_243 : decode cX12_parts 243 = .ok (.getfield 104, 3) := by decide +kernel
theorem dX12_parts_246 : decode cX12_parts 246 = .ok (.iload 4, 2) := by decide +kernel
theorem dX12_parts_248 : decode cX12_parts 248 = .ok (.aload_n 0, 1) := by decide +kernel
theorem dX12_parts_249 : decode cX12_parts 249 = .ok (.getfield 108, 3) := by decide +kernel
theorem dX12_parts_252 : decode cX12_parts 252 = .ok (.iload 4, 2) := by decide +kernel
theorem dX12_parts_254 : decode cX12_parts 254 = .ok (.laload, 1) := by decide +kernel
theorem dX12_parts_255 : decode cX12_parts 255 = .ok (.lastore, 1) := by decide +kernel
theorem dX12_parts_256 : decode cX12_parts 256 = .ok (.iinc 4 1, 3) := by decide +kernel
theorem dX12_parts_259 : decode cX12_parts 259 = .ok (.goto (-25), 3) := by decide +kernel
theorem dX12_parts_262 : decode cX12_parts 262 = .ok (.iinc 3 1, 3) := by decide +kernel
theorem dX12_parts_265 : decode cX12_parts 265 = .ok (.goto (-229), 3) := by decide +kernel
theorem dX12_parts_268 : decode cX12_parts 268 = .ok (.return_, 1) := by decide +kernel
theorem dX12_odds_0 : decode cX12_odds 0 = .ok (.iload_n 1, 1) := by decide +kernel
theorem dX12_odds_1 : decode cX12_odds 1 = .ok (.invokestatic 184, 3) := by decide +kernel
theorem dX12_odds_4 : decode cX12_odds 4 = .ok (.ifCond .eq 19, 3) := by decide +kernel
theorem dX12_odds_7 : decode cX12_odds 7 = .ok (.iload_n 2, 1) := by decide +kernel
theorem dX12_odds_8 : decode cX12_odds 8 = .ok (.invokestatic 184, 3) := by decide +kernel
theorem dX12_odds_11 : decode cX12_odds 11 = .ok (.ifCond .eq 12, 3) := by decide +kernel
theorem dX12_odds_14 : decode cX12_odds 14 = .ok (.iload_n 3, 1) := by decide +kernel
theorem dX12_odds_15 : decode cX12_odds 15 = .ok (.iconst 0, 1) := by decide +kernel
theorem dX12_odds_16 : decode cX12_odds 16 = .ok (.iconst 3, 1) := by decide +kernel
theorem dX12_odds_17 : decode cX12_odds 17 = .ok (.invokestatic 123, 3) := by decide +kernel
theorem dX12_odds_20 : decode cX12_odds 20 = .ok (.ifCond .ne 7, 3) := by decide +kernel
theorem dX12_odds_23 : decode cX12_odds 23 = .ok (.ldc2_w 342, 3) := by decide +kernel
theorem dX12_odds_26 : decode cX12_odds 26 = .ok (.lreturn, 1) := by decide +kernel
theorem dX12_odds_27 : decode cX12_odds 27 = .ok (.aload_n 0, 1) := by decide +kernel
theorem dX12_odds_28 : decode cX12_odds 28 = .ok (.iload_n 1, 1) := by decide +kernel
theorem dX12_odds_29 : decode cX12_odds 29 = .ok (.iload_n 3, 1) := by decide +kernel
theorem dX12_odds_30 : decode cX12_odds 30 = .ok (.invokevirtual 404, 3) := by decide +kernel
theorem dX12_odds_33 : decode cX12_odds 33 = .ok (.aload_n 0, 1) := by decide +kernel
theorem dX12_odds_34 : decode cX12_odds 34 = .ok (.getfield 104, 3) := by decide +kernel
theorem dX12_odds_37 : decode cX12_odds 37 = .ok (.iload_n 2, 1) := by decide +kernel
theorem dX12_odds_38 : decode cX12_odds 38 = .ok (.invokestatic 362, 3) := by decide +kernel
theorem dX12_odds_41 : decode cX12_odds 41 = .ok (.laload, 1) := by decide +kernel
theorem dX12_odds_42 : decode cX12_odds 42 = .ok (.lreturn, 1) := by decide +kernel
theorem dX12_likely_0 : decode cX12_likely 0 = .ok (.iload_n 1, 1) := by decide +kernel
theorem dX12_likely_1 : decode cX12_likely 1 = .ok (.invokestatic 184, 3) := by decide +kernel
theorem dX12_likely_4 : decode cX12_likely 4 = .ok (.ifCond .eq 12, 3) := by decide +kernel
theorem dX12_likely_7 : decode cX12_likely 7 = .ok (.iload_n 2, 1) := by decide +kernel
theorem dX12_likely_8 : decode cX12_likely 8 = .ok (.iconst 0, 1) := by decide +kernel
theorem dX12_likely_9 : decode cX12_likely 9 = .ok (.iconst 3, 1) := by decide +kernel
theorem dX12_likely_10 : decode cX12_likely 10 = .ok (.invokestatic 123, 3) := by decide +kernel
theorem dX12_likely_13 : decode cX12_likely 13 = .ok (.ifCond .ne 5, 3) := by decide +kernel
theorem dX12_likely_16 : decode cX12_likely 16 = .ok (.iconst (-1), 1) := by decide +kernel
theorem dX12_likely_17 : decode cX12_likely 17 = .ok (.ireturn, 1) := by decide +kernel
theorem dX12_likely_18 : decode cX12_likely 18 = .ok (.aload_n 0, 1) := by decide +kernel
theorem dX12_likely_19 : decode cX12_likely 19 = .ok (.iload_n 1, 1) := by decide +kernel
theorem dX12_likely_20 : decode cX12_likely 20 = .ok (.iload_n 2, 1) := by decide +kernel
theorem dX12_likely_21 : decode cX12_likely 21 = .ok (.invokevirtual 404, 3) := by decide +kernel
theorem dX12_likely_24 : decode cX12_likely 24 = .ok (.iconst 0, 1) := by decide +kernel
theorem dX12_likely_25 : decode cX12_likely 25 = .ok (.istore_n 3, 1) := by decide +kernel
theorem dX12_likely_26 : decode cX12_likely 26 = .ok (.iconst 1, 1) := by decide +kernel
theorem dX12_likely_27 : decode cX12_likely 27 = .ok (.istore 4, 2) := by decide +kernel
theorem dX12_likely_29 : decode cX12_likely 29 = .ok (.iload 4, 2) := by decide +kernel
theorem dX12_likely_31 : decode cX12_likely 31 = .ok (.sipush 9331, 3) := by decide +kernel
theorem dX12_likely_34 : decode cX12_likely 34 = .ok (.if_icmp .ge 29, 3) := by decide +kernel
theorem dX12_likely_37 : decode cX12_likely 37 = .ok (.aload_n 0, 1) := by decide +kernel
theorem dX12_likely_38 : decode cX12_likely 38 = .ok (.getfield 104, 3) := by decide +kernel
theorem dX12_likely_41 : decode cX12_likely 41 = .ok (.iload 4, 2) := by decide +kernel
theorem dX12_likely_43 : decode cX12_likely 43 = .ok (.laload, 1) := by decide +kernel
theorem dX12_likely_44 : decode cX12_likely 44 = .ok (.aload_n 0, 1) := by decide +kernel
theorem dX12_likely_45 : decode cX12_likely 45 = .ok (.getfield 104, 3) := by decide +kernel
theorem dX12_likely_48 : decode cX12_likely 48 = .ok (.iload_n 3, 1) := by decide +kernel
theorem dX12_likely_49 : decode cX12_likely 49 = .ok (.laload, 1) := by decide +kernel
theorem dX12_likely_50 : decode cX12_likely 50 = .ok (.lcmp, 1) := by decide +kernel
theorem dX12_likely_51 : decode cX12_likely 51 = .ok (.ifCond .le 6, 3) := by decide +kernel
theorem dX12_likely_54 : decode cX12_likely 54 = .ok (.iload 4, 2) := by decide +kernel
theorem dX12_likely_56 : decode cX12_likely 56 = .ok (.istore_n 3, 1) := by decide +kernel
theorem dX12_likely_57 : decode cX12_likely 57 = .ok (.iinc 4 1, 3) := by decide +kernel
theorem dX12_likely_60 : decode cX12_likely 60 = .ok (.goto (-31), 3) := by decide +kernel
theorem dX12_likely_63 : decode cX12_likely 63 = .ok (.iload_n 3, 1) := by decide +kernel
theorem dX12_likely_64 : decode cX12_likely 64 = .ok (.invokestatic 359, 3) := by decide +kernel
theorem dX12_likely_67 : decode cX12_likely 67 = .ok (.ireturn, 1) := by decide +kernel
theorem dX12_groups_0 : decode cX12_groups 0 = .ok (.iconst 0, 1) := by decide +kernel
theorem dX12_groups_1 : decode cX12_groups 1 = .ok (.istore_n 3, 1) := by decide +kernel
theorem dX12_groups_2 : decode cX12_groups 2 = .ok (.iconst 0, 1) := by decide +kernel
theorem dX12_groups_3 : decode cX12_groups 3 = .ok (.istore 4, 2) := by decide +kernel
theorem dX12_groups_5 : decode cX12_groups 5 = .ok (.iload 4, 2) := by decide +kernel
theorem dX12_groups_7 : decode cX12_groups 7 = .ok (.aload_n 0, 1) := by decide +kernel
theorem dX12_groups_8 : decode cX12_groups 8 = .ok (.getfield 20, 3) := by decide +kernel
theorem dX12_groups_11 : decode cX12_groups 11 = .ok (.bipush 56, 2) := by decide +kernel
theorem dX12_groups_13 : decode cX12_groups 13 = .ok (.iaload, 1) := by decide +kernel
theorem dX12_groups_14 : decode cX12_groups 14 = .ok (.if_icmp .ge 79, 3) := by decide +kernel
theorem dX12_groups_17 : decode cX12_groups 17 = .ok (.iload_n 1, 1) := by decide +kernel
theorem dX12_groups_18 : decode cX12_groups 18 = .ok (.iload 4, 2) := by decide +kernel
theorem dX12_groups_20 : decode cX12_groups 20 = .ok (.invokestatic 390, 3) := by decide +kernel
theorem dX12_groups_23 : decode cX12_groups 23 = .ok (.istore 5, 2) := by decide +kernel
theorem dX12_groups_25 : decode cX12_groups 25 = .ok (.iconst 0, 1) := by decide +kernel
theorem dX12_groups_26 : decode cX12_groups 26 = .ok (.istore 6, 2) := by decide +kernel
theorem dX12_groups_28 : decode cX12_groups 28 = .ok (.iload 6, 2) := by decide +kernel
theorem dX12_groups_30 : decode cX12_groups 30 = .ok (.iload 4, 2) := by decide +kernel
theorem dX12_groups_32 : decode cX12_groups 32 = .ok (.if_icmp .ge 42, 3) := by decide +kernel
theorem dX12_groups_35 : decode cX12_groups 35 = .ok (.iload 5, 2) := by decide +kernel
theorem dX12_groups_37 : decode cX12_groups 37 = .ok (.ifCond .eq 37, 3) := by decide +kernel
theorem dX12_groups_40 : decode cX12_groups 40 = .ok (.iload_n 1, 1) := by decide +kernel
theorem dX12_groups_41 : decode cX12_groups 41 = .ok (.iload 6, 2) := by decide +kernel
theorem dX12_groups_43 : decode cX12_groups 43 = .ok (.invokestatic 390, 3) := by decide +kernel
theorem dX12_groups_46 : decode cX12_groups 46 = .ok (.ifCond .eq 15, 3) := by decide +kernel
theorem dX12_groups_49 : decode cX12_groups 49 = .ok (.aload_n 0, 1) := by decide +kernel
theorem dX12_groups_50 : decode cX12_groups 50 = .ok (.iload 4, 2) := by decide +kernel
theorem dX12_groups_52 : decode cX12_groups 52 = .ok (.iload 6, 2) := by decide +kernel
theorem dX12_groups_54 : decode cX12_groups 54 = .ok (.iload_n 2, 1) := by decide +kernel
theorem dX12_groups_55 : decode cX12_groups 55 = .ok (.invokevirtual 407, 3) := by decide +kernel
theorem dX12_groups_58 : decode cX12_groups 58 = .ok (.ifCond .ne 7, 3) := by decide +kernel
theorem dX12_groups_61 : decode cX12_groups 61 = .ok (.iconst 1, 1) := by decide +kernel
theorem dX12_groups_62 : decode cX12_groups 62 = .ok (.goto 4, 3) := by decide +kernel
theorem dX12_groups_65 : decode cX12_groups 65 = .ok (.iconst 0, 1) := by decide +kernel
theorem dX12_groups_66 : decode cX12_groups 66 = .ok (.istore 5, 2) := by decide +kernel
theorem dX12_groups_68 : decode cX12_groups 68 = .ok (.iinc 6 1, 3) := by decide +kernel
theorem dX12_groups_71 : decode cX12_groups 71 = .ok (.goto (-43), 3) := by decide +kernel
theorem dX12_groups_74 : decode cX12_groups 74 = .ok (.iload_n 3, 1) := by decide +kernel
theorem dX12_groups_75 : decode cX12_groups 75 = .ok (.iload 5, 2) := by decide +kernel
theorem dX12_groups_77 : decode cX12_groups 77 = .ok (.ifCond .eq 7, 3) := by decide +kernel
theorem dX12_groups_80 : decode cX12_groups 80 = .ok (.iconst 1, 1) := by decide +kernel
theorem dX12_groups_81 : decode cX12_groups 81 = .ok (.goto 4, 3) := by decide +kernel
theorem dX12_groups_84 : decode cX12_groups 84 = .ok (.iconst 0, 1) := by decide +kernel
theorem dX12_groups_85 : decode cX12_groups 85 = .ok (.iadd, 1) := by decide +kernel
theorem dX12_groups_86 : decode cX12_groups 86 = .ok (.istore_n 3, 1) := by decide +kernel
theorem dX12_groups_87 : decode cX12_groups 87 = .ok (.iinc 4 1, 3) := by decide +kernel
theorem dX12_groups_90 : decode cX12_groups 90 = .ok (.goto (-85), 3) := by decide +kernel
theorem dX12_groups_93 : decode cX12_groups 93 = .ok (.iload_n 3, 1) := by decide +kernel
theorem dX12_groups_94 : decode cX12_groups 94 = .ok (.ireturn, 1) := by decide +kernel
theorem dX12_areAlike_0 : decode cX12_areAlike 0 = .ok (.iconst 0, 1) := by decide +kernel
theorem dX12_areAlike_1 : decode cX12_areAlike 1 = .ok (.istore 4, 2) := by decide +kernel
theorem dX12_areAlike_3 : decode cX12_areAlike 3 = .ok (.iload 4, 2) := by decide +kernel
theorem dX12_areAlike_5 : decode cX12_areAlike 5 = .ok (.bipush 6, 2) := by decide +kernel
theorem dX12_areAlike_7 : decode cX12_areAlike 7 = .ok (.if_icmp .ge 47, 3) := by decide +kernel
theorem dX12_areAlike_10 : decode cX12_areAlike 10 = .ok (.iload_n 3, 1) := by decide +kernel
theorem dX12_areAlike_11 : decode cX12_areAlike 11 = .ok (.iload 4, 2) := by decide +kernel
theorem dX12_areAlike_13 : decode cX12_areAlike 13 = .ok (.invokestatic 390, 3) := by decide +kernel
theorem dX12_areAlike_16 : decode cX12_areAlike 16 = .ok (.ifCond .eq 32, 3) := by decide +kernel
theorem dX12_areAlike_19 : decode cX12_areAlike 19 = .ok (.aload_n 0, 1) := by decide +kernel
theorem dX12_areAlike_20 : decode cX12_areAlike 20 = .ok (.aload_n 0, 1) := by decide +kernel
theorem dX12_areAlike_21 : decode cX12_areAlike 21 = .ok (.iload_n 1, 1) := by decide +kernel
theorem dX12_areAlike_22 : decode cX12_areAlike 22 = .ok (.iconst 2, 1) := by decide +kernel
theorem dX12_areAlike_23 : decode cX12_areAlike 23 = .ok (.invokevirtual 194, 3) := by decide +kernel
theorem dX12_areAlike_26 : decode cX12_areAlike 26 = .ok (.iload 4, 2) := by decide +kernel
theorem dX12_areAlike_28 : decode cX12_areAlike 28 = .ok (.invokevirtual 159, 3) := by decide +kernel
theorem dX12_areAlike_31 : decode cX12_areAlike 31 = .ok (.aload_n 0, 1) := by decide +kernel
theorem dX12_areAlike_32 : decode cX12_areAlike 32 = .ok (.aload_n 0, 1) := by decide +kernel
theorem dX12_areAlike_33 : decode cX12_areAlike 33 = .ok (.iload_n 2, 1) := by decide +kernel
theorem dX12_areAlike_34 : decode cX12_areAlike 34 = .ok (.iconst 2, 1) := by decide +kernel
theorem dX12_areAlike_35 : decode cX12_areAlike 35 = .ok (.invokevirtual 194, 3) := by decide +kernel
theorem dX12_areAlike_38 : decode cX12_areAlike 38 = .ok (.iload 4, 2) := by decide +kernel
theorem dX12_areAlike_40 : decode cX12_areAlike 40 = .ok (.invokevirtual 159, 3) := by decide +kernel
theorem dX12_areAlike_43 : decode cX12_areAlike 43 = .ok (.if_icmp .eq 5, 3) := by decide +kernel
theorem dX12_areAlike_46 : decode cX12_areAlike 46 = .ok (.iconst 0, 1) := by decide +kernel
theorem dX12_areAlike_47 : decode cX12_areAlike 47 = .ok (.ireturn, 1) := by decide +kernel
theorem dX12_areAlike_48 : decode cX12_areAlike 48 = .ok (.iinc 4 1, 3) := by decide +kernel
theorem dX12_areAlike_51 : decode cX12_areAlike 51 = .ok (.goto (-48), 3) := by decide +kernel
theorem dX12_areAlike_54 : decode cX12_areAlike 54 = .ok (.iconst 1, 1) := by decide +kernel
theorem dX12_areAlike_55 : decode cX12_areAlike 55 = .ok (.ireturn, 1) := by decide +kernel
theorem dX12_tastings_0 : decode cX12_tastings 0 = .ok (.aload_n 0, 1) := by decide +kernel
theorem dX12_tastings_1 : decode cX12_tastings 1 = .ok (.iload_n 1, 1) := by decide +kernel
theorem dX12_tastings_2 : decode cX12_tastings 2 = .ok (.invokevirtual 387, 3) := by decide +kernel
theorem dX12_tastings_5 : decode cX12_tastings 5 = .ok (.ifCond .eq 12, 3) := by decide +kernel
theorem dX12_tastings_8 : decode cX12_tastings 8 = .ok (.iload_n 2, 1) := by decide +kernel
theorem dX12_tastings_9 : decode cX12_tastings 9 = .ok (.iconst 0, 1) := by decide +kernel
theorem dX12_tastings_10 : decode cX12_tastings 10 = .ok (.iconst 3, 1) := by decide +kernel
theorem dX12_tastings_11 : decode cX12_tastings 11 = .ok (.invokestatic 123, 3) := by decide +kernel
theorem dX12_tastings_14 : decode cX12_tastings 14 = .ok (.ifCond .ne 5, 3) := by decide +kernel
theorem dX12_tastings_17 : decode cX12_tastings 17 = .ok (.iconst (-1), 1) := by decide +kernel
theorem dX12_tastings_18 : decode cX12_tastings 18 = .ok (.ireturn, 1) := by decide +kernel
theorem dX12_tastings_19 : decode cX12_tastings 19 = .ok (.aload_n 0, 1) := by decide +kernel
theorem dX12_tastings_20 : decode cX12_tastings 20 = .ok (.iload_n 1, 1) := by decide +kernel
theorem dX12_tastings_21 : decode cX12_tastings 21 = .ok (.bipush 63, 2) := by decide +kernel
theorem dX12_tastings_23 : decode cX12_tastings 23 = .ok (.invokevirtual 410, 3) := by decide +kernel
theorem dX12_tastings_26 : decode cX12_tastings 26 = .ok (.istore_n 3, 1) := by decide +kernel
theorem dX12_tastings_27 : decode cX12_tastings 27 = .ok (.iconst (-1), 1) := by decide +kernel
theorem dX12_tastings_28 : decode cX12_tastings 28 = .ok (.istore 4, 2) := by decide +kernel
theorem dX12_tastings_30 : decode cX12_tastings 30 = .ok (.iconst 0, 1) := by decide +kernel
theorem dX12_tastings_31 : decode cX12_tastings 31 = .ok (.istore 5, 2) := by decide +kernel
theorem dX12_tastings_33 : decode cX12_tastings 33 = .ok (.iconst 0, 1) := by decide +kernel
theorem dX12_tastings_34 : decode cX12_tastings 34 = .ok (.istore 6, 2) := by decide +kernel
theorem dX12_tastings_36 : decode cX12_tastings 36 = .ok (.iload 6, 2) := by decide +kernel
theorem dX12_tastings_38 : decode cX12_tastings 38 = .ok (.bipush 64, 2) := by decide +kernel
theorem dX12_tastings_40 : decode cX12_tastings 40 = .ok (.if_icmp .ge 71, 3) := by decide +kernel
theorem dX12_tastings_43 : decode cX12_tastings 43 = .ok (.aload_n 0, 1) := by decide +kernel
theorem dX12_tastings_44 : decode cX12_tastings 44 = .ok (.iload_n 1, 1) := by decide +kernel
theorem dX12_tastings_45 : decode cX12_tastings 45 = .ok (.iload 6, 2) := by decide +kernel
theorem dX12_tastings_47 : decode cX12_tastings 47 = .ok (.invokevirtual 410, 3) := by decide +kernel
theorem dX12_tastings_50 : decode cX12_tastings 50 = .ok (.iload_n 3, 1) := by decide +kernel
theorem dX12_tastings_51 : decode cX12_tastings 51 = .ok (.if_icmp .lt 54, 3) := by decide +kernel
theorem dX12_tastings_54 : decode cX12_tastings 54 = .ok (.iload 4, 2) := by decide +kernel
theorem dX12_tastings_56 : decode cX12_tastings 56 = .ok (.iconst (-1), 1) := by decide +kernel
theorem dX12_tastings_57 : decode cX12_tastings 57 = .ok (.if_icmp .eq 19, 3) := by decide +kernel
theorem dX12_tastings_60 : decode cX12_tastings 60 = .ok (.iload 6, 2) := by decide +kernel
theorem dX12_tastings_62 : decode cX12_tastings 62 = .ok (.invokestatic 396, 3) := by decide +kernel
theorem dX12_tastings_65 : decode cX12_tastings 65 = .ok (.iload 4, 2) := by decide +kernel
theorem dX12_tastings_67 : decode cX12_tastings 67 = .ok (.invokestatic 396, 3) := by decide +kernel
theorem dX12_tastings_70 : decode cX12_tastings 70 = .ok (.if_icmp .le 6, 3) := by decide +kernel
theorem dX12_tastings_73 : decode cX12_tastings 73 = .ok (.goto 32, 3) := by decide +kernel
theorem dX12_tastings_76 : decode cX12_tastings 76 = .ok (.iload 4, 2) := by decide +kernel
theorem dX12_tastings_78 : decode cX12_tastings 78 = .ok (.iconst (-1), 1) := by decide +kernel
theorem dX12_tastings_79 : decode cX12_tastings 79 = .ok (.if_icmp .eq 16, 3) := by decide +kernel
theorem dX12_tastings_82 : decode cX12_tastings 82 = .ok (.iload 6, 2) := by decide +kernel
theorem dX12_tastings_84 : decode cX12_tastings 84 = .ok (.invokestatic 396, 3) := by decide +kernel
theorem dX12_tastings_87 : decode cX12_tastings 87 = .ok (.iload 4, 2) := by decide +kernel
theorem dX12_tastings_89 : decode cX12_tastings 89 = .ok (.invokestatic 396, 3) := by decide +kernel
theorem dX12_tastings_92 : decode cX12_tastings 92 = .ok (.if_icmp .ge 10, 3) := by decide +kernel
theorem dX12_tastings_95 : decode cX12_tastings 95 = .ok (.iload 6, 2) := by decide +kernel
theorem dX12_tastings_97 : decode cX12_tastings 97 = .ok (.istore 4, 2) := by decide +kernel
theorem dX12_tastings_99 : decode cX12_tastings 99 = .ok (.iconst 0, 1) := by decide +kernel
theorem dX12_tastings_100 : decode cX12_tastings 100 = .ok (.istore 5, 2) := by decide +kernel
theorem dX12_tastings_102 : decode cX12_tastings 102 = .ok (.iinc 5 1, 3) := by decide +kernel
theorem dX12_tastings_105 : decode cX12_tastings 105 = .ok (.iinc 6 1, 3) := by decide +kernel
theorem dX12_tastings_108 : decode cX12_tastings 108 = .ok (.goto (-72), 3) := by decide +kernel
theorem dX12_tastings_111 : decode cX12_tastings 111 = .ok (.iload_n 2, 1) := by decide +kernel
theorem dX12_tastings_112 : decode cX12_tastings 112 = .ok (.ifCond .ne 11, 3) := by decide +kernel
theorem dX12_tastings_115 : decode cX12_tastings 115 = .ok (.iload 4, 2) := by decide +kernel
theorem dX12_tastings_117 : decode cX12_tastings 117 = .ok (.invokestatic 396, 3) := by decide +kernel
theorem dX12_tastings_120 : decode cX12_tastings 120 = .ok (.goto 24, 3) := by decide +kernel
theorem dX12_tastings_123 : decode cX12_tastings 123 = .ok (.iload_n 2, 1) := by decide +kernel
theorem dX12_tastings_124 : decode cX12_tastings 124 = .ok (.iconst 1, 1) := by decide +kernel
theorem dX12_tastings_125 : decode cX12_tastings 125 = .ok (.if_icmp .ne 8, 3) := by decide +kernel
theorem dX12_tastings_128 : decode cX12_tastings 128 = .ok (.iload 4, 2) := by decide +kernel
theorem dX12_tastings_130 : decode cX12_tastings 130 = .ok (.goto 14, 3) := by decide +kernel
