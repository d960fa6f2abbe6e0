theorem dX7_opOf_176 : decode cX7_opOf 176 = .ok (.iload_n 3, 1) := by decide +kernel
theorem dX7_opOf_177 : decode cX7_opOf 177 = .ok (.iload_n 2, 1) := by decide +kernel
theorem dX7_opOf_178 : decode cX7_opOf 178 = .ok (.if_icmp .gt 7, 3) := by decide +kernel
theorem dX7_opOf_181 : decode cX7_opOf 181 = .ok (.iload_n 3, 1) := by decide +kernel
theorem dX7_opOf_182 : decode cX7_opOf 182 = .ok (.goto 4, 3) := by decide +kernel
theorem dX7_opOf_185 : decode cX7_opOf 185 = .ok (.iconst (-1), 1) := by decide +kernel
theorem dX7_opOf_186 : decode cX7_opOf 186 = .ok (.ireturn, 1) := by decide +kernel
theorem dX7_part_0 : decode cX7_part 0 = .ok (.aload_n 0, 1) := by decide +kernel
theorem dX7_part_1 : decode cX7_part 1 = .ok (.getfield 66, 3) := by decide +kernel
theorem dX7_part_4 : decode cX7_part 4 = .ok (.bipush 91, 2) := by decide +kernel
theorem dX7_part_6 : decode cX7_part 6 = .ok (.if_icmp .ne 9, 3) := by decide +kernel
theorem dX7_part_9 : decode cX7_part 9 = .ok (.aload_n 0, 1) := by decide +kernel
theorem dX7_part_10 : decode cX7_part 10 = .ok (.iload_n 1, 1) := by decide +kernel
theorem dX7_part_11 : decode cX7_part 11 = .ok (.invokevirtual 161, 3) := by decide +kernel
theorem dX7_part_14 : decode cX7_part 14 = .ok (.ireturn, 1) := by decide +kernel
theorem dX7_part_15 : decode cX7_part 15 = .ok (.aload_n 0, 1) := by decide +kernel
theorem dX7_part_16 : decode cX7_part 16 = .ok (.getfield 54, 3) := by decide +kernel
theorem dX7_part_19 : decode cX7_part 19 = .ok (.bipush 50, 2) := by decide +kernel
theorem dX7_part_21 : decode cX7_part 21 = .ok (.if_icmp .ge 13, 3) := by decide +kernel
theorem dX7_part_24 : decode cX7_part 24 = .ok (.aload_n 0, 1) := by decide +kernel
theorem dX7_part_25 : decode cX7_part 25 = .ok (.getfield 66, 3) := by decide +kernel
theorem dX7_part_28 : decode cX7_part 28 = .ok (.sipush 2000, 3) := by decide +kernel
theorem dX7_part_31 : decode cX7_part 31 = .ok (.if_icmp .le 8, 3) := by decide +kernel
theorem dX7_part_34 : decode cX7_part 34 = .ok (.aload_n 0, 1) := by decide +kernel
theorem dX7_part_35 : decode cX7_part 35 = .ok (.invokevirtual 76, 3) := by decide +kernel
theorem dX7_part_38 : decode cX7_part 38 = .ok (.ireturn, 1) := by decide +kernel
theorem dX7_part_39 : decode cX7_part 39 = .ok (.aload_n 0, 1) := by decide +kernel
theorem dX7_part_40 : decode cX7_part 40 = .ok (.dup, 1) := by decide +kernel
theorem dX7_part_41 : decode cX7_part 41 = .ok (.getfield 54, 3) := by decide +kernel
theorem dX7_part_44 : decode cX7_part 44 = .ok (.iconst 1, 1) := by decide +kernel
theorem dX7_part_45 : decode cX7_part 45 = .ok (.iadd, 1) := by decide +kernel
theorem dX7_part_46 : decode cX7_part 46 = .ok (.putfield 54, 3) := by decide +kernel
theorem dX7_part_49 : decode cX7_part 49 = .ok (.aload_n 0, 1) := by decide +kernel
theorem dX7_part_50 : decode cX7_part 50 = .ok (.getfield 66, 3) := by decide +kernel
theorem dX7_part_53 : decode cX7_part 53 = .ok (.sipush 1000, 3) := by decide +kernel
theorem dX7_part_56 : decode cX7_part 56 = .ok (.if_icmp .lt 26, 3) := by decide +kernel
theorem dX7_part_59 : decode cX7_part 59 = .ok (.aload_n 0, 1) := by decide +kernel
theorem dX7_part_60 : decode cX7_part 60 = .ok (.getfield 26, 3) := by decide +kernel
theorem dX7_part_63 : decode cX7_part 63 = .ok (.iconst 1, 1) := by decide +kernel
theorem dX7_part_64 : decode cX7_part 64 = .ok (.aload_n 0, 1) := by decide +kernel
theorem dX7_part_65 : decode cX7_part 65 = .ok (.getfield 66, 3) := by decide +kernel
theorem dX7_part_68 : decode cX7_part 68 = .ok (.sipush 1000, 3) := by decide +kernel
theorem dX7_part_71 : decode cX7_part 71 = .ok (.isub, 1) := by decide +kernel
theorem dX7_part_72 : decode cX7_part 72 = .ok (.invokevirtual 134, 3) := by decide +kernel
theorem dX7_part_75 : decode cX7_part 75 = .ok (.pop, 1) := by decide +kernel
theorem dX7_part_76 : decode cX7_part 76 = .ok (.aload_n 0, 1) := by decide +kernel
theorem dX7_part_77 : decode cX7_part 77 = .ok (.invokevirtual 79, 3) := by decide +kernel
theorem dX7_part_80 : decode cX7_part 80 = .ok (.iconst 1, 1) := by decide +kernel
theorem dX7_part_81 : decode cX7_part 81 = .ok (.ireturn, 1) := by decide +kernel
theorem dX7_part_82 : decode cX7_part 82 = .ok (.aload_n 0, 1) := by decide +kernel
theorem dX7_part_83 : decode cX7_part 83 = .ok (.getfield 50, 3) := by decide +kernel
theorem dX7_part_86 : decode cX7_part 86 = .ok (.ifCond .eq 10, 3) := by decide +kernel
theorem dX7_part_89 : decode cX7_part 89 = .ok (.aload_n 0, 1) := by decide +kernel
theorem dX7_part_90 : decode cX7_part 90 = .ok (.invokevirtual 164, 3) := by decide +kernel
theorem dX7_part_93 : decode cX7_part 93 = .ok (.goto 7, 3) := by decide +kernel
theorem dX7_part_96 : decode cX7_part 96 = .ok (.aload_n 0, 1) := by decide +kernel
theorem dX7_part_97 : decode cX7_part 97 = .ok (.invokevirtual 167, 3) := by decide +kernel
theorem dX7_part_100 : decode cX7_part 100 = .ok (.istore_n 2, 1) := by decide +kernel
theorem dX7_part_101 : decode cX7_part 101 = .ok (.iload_n 2, 1) := by decide +kernel
theorem dX7_part_102 : decode cX7_part 102 = .ok (.iconst (-1), 1) := by decide +kernel
theorem dX7_part_103 : decode cX7_part 103 = .ok (.if_icmp .ne 8, 3) := by decide +kernel
theorem dX7_part_106 : decode cX7_part 106 = .ok (.aload_n 0, 1) := by decide +kernel
theorem dX7_part_107 : decode cX7_part 107 = .ok (.invokevirtual 76, 3) := by decide +kernel
theorem dX7_part_110 : decode cX7_part 110 = .ok (.ireturn, 1) := by decide +kernel
theorem dX7_part_111 : decode cX7_part 111 = .ok (.aload_n 0, 1) := by decide +kernel
theorem dX7_part_112 : decode cX7_part 112 = .ok (.getfield 26, 3) := by decide +kernel
theorem dX7_part_115 : decode cX7_part 115 = .ok (.iconst 2, 1) := by decide +kernel
theorem dX7_part_116 : decode cX7_part 116 = .ok (.iload_n 2, 1) := by decide +kernel
theorem dX7_part_117 : decode cX7_part 117 = .ok (.invokevirtual 134, 3) := by decide +kernel
theorem dX7_part_120 : decode cX7_part 120 = .ok (.pop, 1) := by decide +kernel
theorem dX7_part_121 : decode cX7_part 121 = .ok (.aload_n 0, 1) := by decide +kernel
theorem dX7_part_122 : decode cX7_part 122 = .ok (.invokevirtual 79, 3) := by decide +kernel
theorem dX7_part_125 : decode cX7_part 125 = .ok (.iconst 1, 1) := by decide +kernel
theorem dX7_part_126 : decode cX7_part 126 = .ok (.ireturn, 1) := by decide +kernel
theorem dX7_inSquare_0 : decode cX7_inSquare 0 = .ok (.iload_n 1, 1) := by decide +kernel
theorem dX7_inSquare_1 : decode cX7_inSquare 1 = .ok (.bipush 8, 2) := by decide +kernel
theorem dX7_inSquare_3 : decode cX7_inSquare 3 = .ok (.if_icmp .lt 8, 3) := by decide +kernel
theorem dX7_inSquare_6 : decode cX7_inSquare 6 = .ok (.aload_n 0, 1) := by decide +kernel
theorem dX7_inSquare_7 : decode cX7_inSquare 7 = .ok (.invokevirtual 76, 3) := by decide +kernel
theorem dX7_inSquare_10 : decode cX7_inSquare 10 = .ok (.ireturn, 1) := by decide +kernel
theorem dX7_inSquare_11 : decode cX7_inSquare 11 = .ok (.aload_n 0, 1) := by decide +kernel
theorem dX7_inSquare_12 : decode cX7_inSquare 12 = .ok (.invokevirtual 79, 3) := by decide +kernel
theorem dX7_inSquare_15 : decode cX7_inSquare 15 = .ok (.aload_n 0, 1) := by decide +kernel
theorem dX7_inSquare_16 : decode cX7_inSquare 16 = .ok (.iload_n 1, 1) := by decide +kernel
theorem dX7_inSquare_17 : decode cX7_inSquare 17 = .ok (.iconst 1, 1) := by decide +kernel
theorem dX7_inSquare_18 : decode cX7_inSquare 18 = .ok (.iadd, 1) := by decide +kernel
theorem dX7_inSquare_19 : decode cX7_inSquare 19 = .ok (.invokevirtual 137, 3) := by decide +kernel
theorem dX7_inSquare_22 : decode cX7_inSquare 22 = .ok (.ifCond .ne 5, 3) := by decide +kernel
theorem dX7_inSquare_25 : decode cX7_inSquare 25 = .ok (.iconst 0, 1) := by decide +kernel
theorem dX7_inSquare_26 : decode cX7_inSquare 26 = .ok (.ireturn, 1) := by decide +kernel
theorem dX7_inSquare_27 : decode cX7_inSquare 27 = .ok (.aload_n 0, 1) := by decide +kernel
theorem dX7_inSquare_28 : decode cX7_inSquare 28 = .ok (.getfield 66, 3) := by decide +kernel
theorem dX7_inSquare_31 : decode cX7_inSquare 31 = .ok (.bipush 93, 2) := by decide +kernel
theorem dX7_inSquare_33 : decode cX7_inSquare 33 = .ok (.if_icmp .eq 8, 3) := by decide +kernel
theorem dX7_inSquare_36 : decode cX7_inSquare 36 = .ok (.aload_n 0, 1) := by decide +kernel
theorem dX7_inSquare_37 : decode cX7_inSquare 37 = .ok (.invokevirtual 76, 3) := by decide +kernel
theorem dX7_inSquare_40 : decode cX7_inSquare 40 = .ok (.ireturn, 1) := by decide +kernel
theorem dX7_inSquare_41 : decode cX7_inSquare 41 = .ok (.aload_n 0, 1) := by decide +kernel
theorem dX7_inSquare_42 : decode cX7_inSquare 42 = .ok (.invokevirtual 79, 3) := by decide +kernel
theorem dX7_inSquare_45 : decode cX7_inSquare 45 = .ok (.iconst 1, 1) := by decide +kernel
theorem dX7_inSquare_46 : decode cX7_inSquare 46 = .ok (.ireturn, 1) := by decide +kernel
theorem dX7_lawWord_0 : decode cX7_lawWord 0 = .ok (.aload_n 0, 1) := by decide +kernel
theorem dX7_lawWord_1 : decode cX7_lawWord 1 = .ok (.getfield 26, 3) := by decide +kernel
theorem dX7_lawWord_4 : decode cX7_lawWord 4 = .ok (.dup, 1) := by decide +kernel
theorem dX7_lawWord_5 : decode cX7_lawWord 5 = .ok (.getfield 170, 3) := by decide +kernel
theorem dX7_lawWord_8 : decode cX7_lawWord 8 = .ok (.aload_n 0, 1) := by decide +kernel
theorem dX7_lawWord_9 : decode cX7_lawWord 9 = .ok (.getfield 66, 3) := by decide +kernel
theorem dX7_lawWord_12 : decode cX7_lawWord 12 = .ok (.sipush 278, 3) := by decide +kernel
theorem dX7_lawWord_15 : decode cX7_lawWord 15 = .ok (.if_icmp .ne 7, 3) := by decide +kernel
theorem dX7_lawWord_18 : decode cX7_lawWord 18 = .ok (.iconst 1, 1) := by decide +kernel
theorem dX7_lawWord_19 : decode cX7_lawWord 19 = .ok (.goto 4, 3) := by decide +kernel
theorem dX7_lawWord_22 : decode cX7_lawWord 22 = .ok (.iconst 0, 1) := by decide +kernel
theorem dX7_lawWord_23 : decode cX7_lawWord 23 = .ok (.ior, 1) := by decide +kernel
theorem dX7_lawWord_24 : decode cX7_lawWord 24 = .ok (.putfield 170, 3) := by decide +kernel
theorem dX7_lawWord_27 : decode cX7_lawWord 27 = .ok (.aload_n 0, 1) := by decide +kernel
theorem dX7_lawWord_28 : decode cX7_lawWord 28 = .ok (.getfield 66, 3) := by decide +kernel
theorem dX7_lawWord_31 : decode cX7_lawWord 31 = .ok (.sipush 272, 3) := by decide +kernel
theorem dX7_lawWord_34 : decode cX7_lawWord 34 = .ok (.if_icmp .lt 24, 3) := by decide +kernel
theorem dX7_lawWord_37 : decode cX7_lawWord 37 = .ok (.aload_n 0, 1) := by decide +kernel
theorem dX7_lawWord_38 : decode cX7_lawWord 38 = .ok (.getfield 66, 3) := by decide +kernel
theorem dX7_lawWord_41 : decode cX7_lawWord 41 = .ok (.sipush 279, 3) := by decide +kernel
theorem dX7_lawWord_44 : decode cX7_lawWord 44 = .ok (.if_icmp .gt 14, 3) := by decide +kernel
theorem dX7_lawWord_47 : decode cX7_lawWord 47 = .ok (.aload_n 0, 1) := by decide +kernel
theorem dX7_lawWord_48 : decode cX7_lawWord 48 = .ok (.getfield 66, 3) := by decide +kernel
theorem dX7_lawWord_51 : decode cX7_lawWord 51 = .ok (.sipush 272, 3) := by decide +kernel
theorem dX7_lawWord_54 : decode cX7_lawWord 54 = .ok (.isub, 1) := by decide +kernel
theorem dX7_lawWord_55 : decode cX7_lawWord 55 = .ok (.goto 4, 3) := by decide +kernel
theorem dX7_lawWord_58 : decode cX7_lawWord 58 = .ok (.iconst (-1), 1) := by decide +kernel
theorem dX7_lawWord_59 : decode cX7_lawWord 59 = .ok (.ireturn, 1) := by decide +kernel
theorem dX7_orderWord_0 : decode cX7_orderWord 0 = .ok (.aload_n 0, 1) := by decide +kernel
theorem dX7_orderWord_1 : decode cX7_orderWord 1 = .ok (.getfield 66, 3) := by decide +kernel
theorem dX7_orderWord_4 : decode cX7_orderWord 4 = .ok (.sipush 280, 3) := by decide +kernel
theorem dX7_orderWord_7 : decode cX7_orderWord 7 = .ok (.if_icmp .lt 24, 3) := by decide +kernel
theorem dX7_orderWord_10 : decode cX7_orderWord 10 = .ok (.aload_n 0, 1) := by decide +kernel
theorem dX7_orderWord_11 : decode cX7_orderWord 11 = .ok (.getfield 66, 3) := by decide +kernel
theorem dX7_orderWord_14 : decode cX7_orderWord 14 = .ok (.sipush 283, 3) := by decide +kernel
theorem dX7_orderWord_17 : decode cX7_orderWord 17 = .ok (.if_icmp .gt 14, 3) := by decide +kernel
theorem dX7_orderWord_20 : decode cX7_orderWord 20 = .ok (.iconst 0, 1) := by decide +kernel
theorem dX7_orderWord_21 : decode cX7_orderWord 21 = .ok (.aload_n 0, 1) := by decide +kernel
theorem dX7_orderWord_22 : decode cX7_orderWord 22 = .ok (.getfield 66, 3) := by decide +kernel
theorem dX7_orderWord_25 : decode cX7_orderWord 25 = .ok (.iadd, 1) := by decide +kernel
theorem dX7_orderWord_26 : decode cX7_orderWord 26 = .ok (.sipush 280, 3) := by decide +kernel
theorem dX7_orderWord_29 : decode cX7_orderWord 29 = .ok (.isub, 1) := by decide +kernel
theorem dX7_orderWord_30 : decode cX7_orderWord 30 = .ok (.ireturn, 1) := by decide +kernel
theorem dX7_orderWord_31 : decode cX7_orderWord 31 = .ok (.aload_n 0, 1) := by decide +kernel
theorem dX7_orderWord_32 : decode cX7_orderWord 32 = .ok (.getfield 66, 3) := by decide +kernel
theorem dX7_orderWord_35 : decode cX7_orderWord 35 = .ok (.sipush 275, 3) := by decide +kernel
theorem dX7_orderWord_38 : decode cX7_orderWord 38 = .ok (.if_icmp .eq 15, 3) := by decide +kernel
theorem dX7_orderWord_41 : decode cX7_orderWord 41 = .ok (.aload_n 0, 1) := by decide +kernel
theorem dX7_orderWord_42 : decode cX7_orderWord 42 = .ok (.getfield 66, 3) := by decide +kernel
theorem dX7_orderWord_45 : decode cX7_orderWord 45 = .ok (.sipush 276, 3) := by decide +kernel
theorem dX7_orderWord_48 : decode cX7_orderWord 48 = .ok (.if_icmp .eq 5, 3) := by decide +kernel
theorem dX7_orderWord_51 : decode cX7_orderWord 51 = .ok (.iconst (-1), 1) := by decide +kernel
theorem dX7_orderWord_52 : decode cX7_orderWord 52 = .ok (.ireturn, 1) := by decide +kernel
theorem dX7_orderWord_53 : decode cX7_orderWord 53 = .ok (.aload_n 0, 1) := by decide +kernel
theorem dX7_orderWord_54 : decode cX7_orderWord 54 = .ok (.getfield 66, 3) := by decide +kernel
theorem dX7_orderWord_57 : decode cX7_orderWord 57 = .ok (.sipush 275, 3) := by decide +kernel
theorem dX7_orderWord_60 : decode cX7_orderWord 60 = .ok (.if_icmp .ne 7, 3) := by decide +kernel
theorem dX7_orderWord_63 : decode cX7_orderWord 63 = .ok (.iconst 1, 1) := by decide +kernel
theorem dX7_orderWord_64 : decode cX7_orderWord 64 = .ok (.goto 4, 3) := by decide +kernel
theorem dX7_orderWord_67 : decode cX7_orderWord 67 = .ok (.iconst 0, 1) := by decide +kernel
theorem dX7_orderWord_68 : decode cX7_orderWord 68 = .ok (.istore_n 1, 1) := by decide +kernel
theorem dX7_orderWord_69 : decode cX7_orderWord 69 = .ok (.aload_n 0, 1) := by decide +kernel
theorem dX7_orderWord_70 : decode cX7_orderWord 70 = .ok (.invokevirtual 79, 3) := by decide +kernel
theorem dX7_orderWord_73 : decode cX7_orderWord 73 = .ok (.aload_n 0, 1) := by decide +kernel
theorem dX7_orderWord_74 : decode cX7_orderWord 74 = .ok (.getfield 66, 3) := by decide +kernel
theorem dX7_orderWord_77 : decode cX7_orderWord 77 = .ok (.sipush 1000, 3) := by decide +kernel
theorem dX7_orderWord_80 : decode cX7_orderWord 80 = .ok (.isub, 1) := by decide +kernel
theorem dX7_orderWord_81 : decode cX7_orderWord 81 = .ok (.istore_n 2, 1) := by decide +kernel
theorem dX7_orderWord_82 : decode cX7_orderWord 82 = .ok (.iload_n 2, 1) := by decide +kernel
theorem dX7_orderWord_83 : decode cX7_orderWord 83 = .ok (.ifCond .lt 9, 3) := by decide +kernel
theorem dX7_orderWord_86 : decode cX7_orderWord 86 = .ok (.iload_n 2, 1) := by decide +kernel
theorem dX7_orderWord_87 : decode cX7_orderWord 87 = .ok (.bipush 12, 2) := by decide +kernel
theorem dX7_orderWord_89 : decode cX7_orderWord 89 = .ok (.if_icmp .lt 5, 3) := by decide +kernel
theorem dX7_orderWord_92 : decode cX7_orderWord 92 = .ok (.iconst (-1), 1) := by decide +kernel
theorem dX7_orderWord_93 : decode cX7_orderWord 93 = .ok (.ireturn, 1) := by decide +kernel
theorem dX7_orderWord_94 : decode cX7_orderWord 94 = .ok (.iload_n 1, 1) := by decide +kernel
theorem dX7_orderWord_95 : decode cX7_orderWord 95 = .ok (.ifCond .eq 7, 3) := by decide +kernel
theorem dX7_orderWord_98 : decode cX7_orderWord 98 = .ok (.iconst 4, 1) := by decide +kernel
theorem dX7_orderWord_99 : decode cX7_orderWord 99 = .ok (.iload_n 2, 1) := by decide +kernel
theorem dX7_orderWord_100 : decode cX7_orderWord 100 = .ok (.iadd, 1) := by decide +kernel
theorem dX7_orderWord_101 : decode cX7_orderWord 101 = .ok (.ireturn, 1) := by decide +kernel
theorem dX7_orderWord_102 : decode cX7_orderWord 102 = .ok (.aload_n 0, 1) := by decide +kernel
theorem dX7_orderWord_103 : decode cX7_orderWord 103 = .ok (.invokevirtual 79, 3) := by decide +kernel
theorem dX7_orderWord_106 : decode cX7_orderWord 106 = .ok (.aload_n 0, 1) := by decide +kernel
theorem dX7_orderWord_107 : decode cX7_orderWord 107 = .ok (.getfield 66, 3) := by decide +kernel
theorem dX7_orderWord_110 : decode cX7_orderWord 110 = .ok (.sipush 1000, 3) := by decide +kernel
theorem dX7_orderWord_113 : decode cX7_orderWord 113 = .ok (.isub, 1) := by decide +kernel
theorem dX7_orderWord_114 : decode cX7_orderWord 114 = .ok (.istore_n 3, 1) := by decide +kernel
theorem dX7_orderWord_115 : decode cX7_orderWord 115 = .ok (.iload_n 3, 1) := by decide +kernel
theorem dX7_orderWord_116 : decode cX7_orderWord 116 = .ok (.invokestatic 173, 3) := by decide +kernel
theorem dX7_orderWord_119 : decode cX7_orderWord 119 = .ok (.ifCond .eq 15, 3) := by decide +kernel
theorem dX7_orderWord_122 : decode cX7_orderWord 122 = .ok (.bipush 16, 2) := by decide +kernel
theorem dX7_orderWord_124 : decode cX7_orderWord 124 = .ok (.iload_n 2, 1) := by decide +kernel
theorem dX7_orderWord_125 : decode cX7_orderWord 125 = .ok (.bipush 6, 2) := by decide +kernel
theorem dX7_orderWord_127 : decode cX7_orderWord 127 = .ok (.imul, 1) := by decide +kernel
theorem dX7_orderWord_128 : decode cX7_orderWord 128 = .ok (.iadd, 1) := by decide +kernel
theorem dX7_orderWord_129 : decode cX7_orderWord 129 = .ok (.iload_n 3, 1) := by decide +kernel
theorem dX7_orderWord_130 : decode cX7_orderWord 130 = .ok (.iadd, 1) := by decide +kernel
theorem dX7_orderWord_131 : decode cX7_orderWord 131 = .ok (.goto 4, 3) := by decide +kernel
theorem dX7_orderWord_134 : decode cX7_orderWord 134 = .ok (.iconst (-1), 1) := by decide +kernel
theorem dX7_orderWord_135 : decode cX7_orderWord 135 = .ok (.ireturn, 1) := by decide +kernel
theorem dX8_init_0 : decode cX8_init 0 = .ok (.aload_n 0, 1) := by decide +kernel
theorem dX8_init_1 : decode cX8_init 1 = .ok (.invokespecial 3, 3) := by decide +kernel
theorem dX8_init_4 : decode cX8_init 4 = .ok (.aload_n 0, 1) := by decide +kernel
theorem dX8_init_5 : decode cX8_init 5 = .ok (.new 9, 3) := by decide +kernel
theorem dX8_init_8 : decode cX8_init 8 = .ok (.dup, 1) := by decide +kernel
theorem dX8_init_9 : decode cX8_init 9 = .ok (.invokespecial 11, 3) := by decide +kernel
theorem dX8_init_12 : decode cX8_init 12 = .ok (.putfield 12, 3) := by decide +kernel
theorem dX8_init_15 : decode cX8_init 15 = .ok (.aload_n 0, 1) := by decide +kernel
theorem dX8_init_16 : decode cX8_init 16 = .ok (.sipush 6480, 3) := by decide +kernel
theorem dX8_init_19 : decode cX8_init 19 = .ok (.newarray .int, 2) := by decide +kernel
theorem dX8_init_21 : decode cX8_init 21 = .ok (.putfield 18, 3) := by decide +kernel
theorem dX8_init_24 : decode cX8_init 24 = .ok (.aload_n 0, 1) := by decide +kernel
theorem dX8_init_25 : decode cX8_init 25 = .ok (.aload_n 1, 1) := by decide +kernel
theorem dX8_init_26 : decode cX8_init 26 = .ok (.putfield 22, 3) := by decide +kernel
theorem dX8_init_29 : decode cX8_init 29 = .ok (.return_, 1) := by decide +kernel
theorem dX8_open_0 : decode cX8_open 0 = .ok (.aload_n 0, 1) := by decide +kernel
theorem dX8_open_1 : decode cX8_open 1 = .ok (.getfield 26, 3) := by decide +kernel
theorem dX8_open_4 : decode cX8_open 4 = .ok (.iload_n 1, 1) := by decide +kernel
theorem dX8_open_5 : decode cX8_open 5 = .ok (.if_icmp .eq 20, 3) := by decide +kernel
theorem dX8_open_8 : decode cX8_open 8 = .ok (.aload_n 0, 1) := by decide +kernel
theorem dX8_open_9 : decode cX8_open 9 = .ok (.getfield 30, 3) := by decide +kernel
theorem dX8_open_12 : decode cX8_open 12 = .ok (.ifnull 13, 3) := by decide +kernel
theorem dX8_open_15 : decode cX8_open 15 = .ok (.aload_n 0, 1) := by decide +kernel
theorem dX8_open_16 : decode cX8_open 16 = .ok (.getfield 30, 3) := by decide +kernel
theorem dX8_open_19 : decode cX8_open 19 = .ok (.getfield 34, 3) := by decide +kernel
theorem dX8_open_22 : decode cX8_open 22 = .ok (.ifCond .ne 7, 3) := by decide +kernel
theorem dX8_open_25 : decode cX8_open 25 = .ok (.iconst 1, 1) := by decide +kernel
theorem dX8_open_26 : decode cX8_open 26 = .ok (.goto 4, 3) := by decide +kernel
theorem dX8_open_29 : decode cX8_open 29 = .ok (.iconst 0, 1) := by decide +kernel
theorem dX8_open_30 : decode cX8_open 30 = .ok (.istore_n 2, 1) := by decide +kernel
theorem dX8_open_31 : decode cX8_open 31 = .ok (.aload_n 0, 1) := by decide +kernel
theorem dX8_open_32 : decode cX8_open 32 = .ok (.getfield 40, 3) := by decide +kernel
theorem dX8_open_35 : decode cX8_open 35 = .ok (.aload_n 0, 1) := by decide +kernel
theorem dX8_open_36 : decode cX8_open 36 = .ok (.getfield 22, 3) := by decide +kernel
theorem dX8_open_39 : decode cX8_open 39 = .ok (.getfield 43, 3) := by decide +kernel
theorem dX8_open_42 : decode cX8_open 42 = .ok (.if_icmp .ne 8, 3) := by decide +kernel
theorem dX8_open_45 : decode cX8_open 45 = .ok (.iload_n 2, 1) := by decide +kernel
theorem dX8_open_46 : decode cX8_open 46 = .ok (.ifCond .eq 4, 3) := by decide +kernel
theorem dX8_open_49 : decode cX8_open 49 = .ok (.return_, 1) := by decide +kernel
theorem dX8_open_50 : decode cX8_open 50 = .ok (.aload_n 0, 1) := by decide +kernel
theorem dX8_open_51 : decode cX8_open 51 = .ok (.aload_n 0, 1) := by decide +kernel
theorem dX8_open_52 : decode cX8_open 52 = .ok (.getfield 22, 3) := by decide +kernel
theorem dX8_open_55 : decode cX8_open 55 = .ok (.getfield 43, 3) := by decide +kernel
theorem dX8_open_58 : decode cX8_open 58 = .ok (.putfield 40, 3) := by decide +kernel
theorem dX8_open_61 : decode cX8_open 61 = .ok (.aload_n 0, 1) := by decide +kernel
theorem dX8_open_62 : decode cX8_open 62 = .ok (.iload_n 1, 1) := by decide +kernel
theorem dX8_open_63 : decode cX8_open 63 = .ok (.putfield 26, 3) := by decide +kernel
theorem dX8_open_66 : decode cX8_open 66 = .ok (.aload_n 0, 1) := by decide +kernel
theorem dX8_open_67 : decode cX8_open 67 = .ok (.aload_n 0, 1) := by decide +kernel
theorem dX8_open_68 : decode cX8_open 68 = .ok (.getfield 22, 3) := by decide +kernel
theorem dX8_open_71 : decode cX8_open 71 = .ok (.invokevirtual 46, 3) := by decide +kernel
theorem dX8_open_74 : decode cX8_open 74 = .ok (.putfield 30, 3) := by decide +kernel
theorem dX8_open_77 : decode cX8_open 77 = .ok (.aload_n 0, 1) := by decide +kernel
theorem dX8_open_78 : decode cX8_open 78 = .ok (.dup, 1) := by decide +kernel
theorem dX8_open_79 : decode cX8_open 79 = .ok (.getfield 50, 3) := by decide +kernel
theorem dX8_open_82 : decode cX8_open 82 = .ok (.iconst 1, 1) := by decide +kernel
theorem dX8_open_83 : decode cX8_open 83 = .ok (.iadd, 1) := by decide +kernel
theorem dX8_open_84 : decode cX8_open 84 = .ok (.putfield 50, 3) := by decide +kernel
theorem dX8_open_87 : decode cX8_open 87 = .ok (.return_, 1) := by decide +kernel
theorem dX8_isFree_0 : decode cX8_isFree 0 = .ok (.aload_n 0, 1) := by decide +kernel
theorem dX8_isFree_1 : decode cX8_isFree 1 = .ok (.getfield 30, 3) := by decide +kernel
theorem dX8_isFree_4 : decode cX8_isFree 4 = .ok (.ifnonnull 7, 3) := by decide +kernel
theorem dX8_isFree_7 : decode cX8_isFree 7 = .ok (.iconst 1, 1) := by decide +kernel
theorem dX8_isFree_8 : decode cX8_isFree 8 = .ok (.goto 4, 3) := by decide +kernel
theorem dX8_isFree_11 : decode cX8_isFree 11 = .ok (.iconst 0, 1) := by decide +kernel
theorem dX8_isFree_12 : decode cX8_isFree 12 = .ok (.ireturn, 1) := by decide +kernel
theorem dX8_weightOf_0 : decode cX8_weightOf 0 = .ok (.iload_n 1, 1) := by decide +kernel
theorem dX8_weightOf_1 : decode cX8_weightOf 1 = .ok (.iconst 1, 1) := by decide +kernel
theorem dX8_weightOf_2 : decode cX8_weightOf 2 = .ok (.if_icmp .eq 8, 3) := by decide +kernel
theorem dX8_weightOf_5 : decode cX8_weightOf 5 = .ok (.iload_n 1, 1) := by decide +kernel
theorem dX8_weightOf_6 : decode cX8_weightOf 6 = .ok (.iconst 3, 1) := by decide +kernel
theorem dX8_weightOf_7 : decode cX8_weightOf 7 = .ok (.if_icmp .ne 17, 3) := by decide +kernel
theorem dX8_weightOf_10 : decode cX8_weightOf 10 = .ok (.aload_n 0, 1) := by decide +kernel
theorem dX8_weightOf_11 : decode cX8_weightOf 11 = .ok (.getfield 22, 3) := by decide +kernel
theorem dX8_weightOf_14 : decode cX8_weightOf 14 = .ok (.getfield 53, 3) := by decide +kernel
theorem dX8_weightOf_17 : decode cX8_weightOf 17 = .ok (.iload_n 2, 1) := by decide +kernel
theorem dX8_weightOf_18 : decode cX8_weightOf 18 = .ok (.iaload, 1) := by decide +kernel
theorem dX8_weightOf_19 : decode cX8_weightOf 19 = .ok (.ifCond .ne 5, 3) := by decide +kernel
theorem dX8_weightOf_22 : decode cX8_weightOf 22 = .ok (.iconst (-1), 1) := by decide +kernel
theorem dX8_weightOf_23 : decode cX8_weightOf 23 = .ok (.ireturn, 1) := by decide +kernel
theorem dX8_weightOf_24 : decode cX8_weightOf 24 = .ok (.aload_n 0, 1) := by decide +kernel
theorem dX8_weightOf_25 : decode cX8_weightOf 25 = .ok (.getfield 30, 3) := by decide +kernel
theorem dX8_weightOf_28 : decode cX8_weightOf 28 = .ok (.ifnonnull 5, 3) := by decide +kernel
theorem dX8_weightOf_31 : decode cX8_weightOf 31 = .ok (.iconst 1, 1) := by decide +kernel
theorem dX8_weightOf_32 : decode cX8_weightOf 32 = .ok (.ireturn, 1) := by decide +kernel
theorem dX8_weightOf_33 : decode cX8_weightOf 33 = .ok (.iload_n 1, 1) := by decide +kernel
theorem dX8_weightOf_34 : decode cX8_weightOf 34 = .ok (.bipush 6, 2) := by decide +kernel
theorem dX8_weightOf_36 : decode cX8_weightOf 36 = .ok (.imul, 1) := by decide +kernel
theorem dX8_weightOf_37 : decode cX8_weightOf 37 = .ok (.iload_n 2, 1) := by decide +kernel
theorem dX8_weightOf_38 : decode cX8_weightOf 38 = .ok (.iadd, 1) := by decide +kernel
theorem dX8_weightOf_39 : decode cX8_weightOf 39 = .ok (.bipush 6, 2) := by decide +kernel
theorem dX8_weightOf_41 : decode cX8_weightOf 41 = .ok (.imul, 1) := by decide +kernel
theorem dX8_weightOf_42 : decode cX8_weightOf 42 = .ok (.iload_n 3, 1) := by decide +kernel
theorem dX8_weightOf_43 : decode cX8_weightOf 43 = .ok (.iadd, 1) := by decide +kernel
theorem dX8_weightOf_44 : decode cX8_weightOf 44 = .ok (.bipush 6, 2) := by decide +kernel
theorem dX8_weightOf_46 : decode cX8_weightOf 46 = .ok (.imul, 1) := by decide +kernel
theorem dX8_weightOf_47 : decode cX8_weightOf 47 = .ok (.iload 4, 2) := by decide +kernel
theorem dX8_weightOf_49 : decode cX8_weightOf 49 = .ok (.iadd, 1) := by decide +kernel
theorem dX8_weightOf_50 : decode cX8_weightOf 50 = .ok (.bipush 6, 2) := by decide +kernel
theorem dX8_weightOf_52 : decode cX8_weightOf 52 = .ok (.imul, 1) := by decide +kernel
theorem dX8_weightOf_53 : decode cX8_weightOf 53 = .ok (.iload 5, 2) := by decide +kernel
theorem dX8_weightOf_55 : decode cX8_weightOf 55 = .ok (.iadd, 1) := by decide +kernel
theorem dX8_weightOf_56 : decode cX8_weightOf 56 = .ok (.istore 6, 2) := by decide +kernel
theorem dX8_weightOf_58 : decode cX8_weightOf 58 = .ok (.iload 6, 2) := by decide +kernel
theorem dX8_weightOf_60 : decode cX8_weightOf 60 = .ok (.ifCond .lt 11, 3) := by decide +kernel
theorem dX8_weightOf_63 : decode cX8_weightOf 63 = .ok (.iload 6, 2) := by decide +kernel
theorem dX8_weightOf_65 : decode cX8_weightOf 65 = .ok (.sipush 6480, 3) := by decide +kernel
theorem dX8_weightOf_68 : decode cX8_weightOf 68 = .ok (.if_icmp .lt 5, 3) := by decide +kernel
theorem dX8_weightOf_71 : decode cX8_weightOf 71 = .ok (.iconst (-1), 1) := by decide +kernel
theorem dX8_weightOf_72 : decode cX8_weightOf 72 = .ok (.ireturn, 1) := by decide +kernel
theorem dX8_weightOf_73 : decode cX8_weightOf 73 = .ok (.aload_n 0, 1) := by decide +kernel
theorem dX8_weightOf_74 : decode cX8_weightOf 74 = .ok (.getfield 18, 3) := by decide +kernel
theorem dX8_weightOf_77 : decode cX8_weightOf 77 = .ok (.iload 6, 2) := by decide +kernel
theorem dX8_weightOf_79 : decode cX8_weightOf 79 = .ok (.iaload, 1) := by decide +kernel
theorem dX8_weightOf_80 : decode cX8_weightOf 80 = .ok (.bipush 7, 2) := by decide +kernel
theorem dX8_weightOf_82 : decode cX8_weightOf 82 = .ok (.ishr, 1) := by decide +kernel
theorem dX8_weightOf_83 : decode cX8_weightOf 83 = .ok (.aload_n 0, 1) := by decide +kernel
theorem dX8_weightOf_84 : decode cX8_weightOf 84 = .ok (.getfield 50, 3) := by decide +kernel
theorem dX8_weightOf_87 : decode cX8_weightOf 87 = .ok (.if_icmp .eq 94, 3) := by decide +kernel
theorem dX8_weightOf_90 : decode cX8_weightOf 90 = .ok (.aload_n 0, 1) := by decide +kernel
theorem dX8_weightOf_91 : decode cX8_weightOf 91 = .ok (.getfield 12, 3) := by decide +kernel
theorem dX8_weightOf_94 : decode cX8_weightOf 94 = .ok (.getfield 56, 3) := by decide +kernel
theorem dX8_weightOf_97 : decode cX8_weightOf 97 = .ok (.astore 7, 2) := by decide +kernel
theorem dX8_weightOf_99 : decode cX8_weightOf 99 = .ok (.aload 7, 2) := by decide +kernel
theorem dX8_weightOf_101 : decode cX8_weightOf 101 = .ok (.iconst 0, 1) := by decide +kernel
theorem dX8_weightOf_102 : decode cX8_weightOf 102 = .ok (.iload_n 1, 1) := by decide +kernel
theorem dX8_weightOf_103 : decode cX8_weightOf 103 = .ok (.iastore, 1) := by decide +kernel
theorem dX8_weightOf_104 : decode cX8_weightOf 104 = .ok (.aload 7, 2) := by decide +kernel
theorem dX8_weightOf_106 : decode cX8_weightOf 106 = .ok (.iconst 1, 1) := by decide +kernel
theorem dX8_weightOf_107 : decode cX8_weightOf 107 = .ok (.iload_n 2, 1) := by decide +kernel
theorem dX8_weightOf_108 : decode cX8_weightOf 108 = .ok (.iastore, 1) := by decide +kernel
theorem dX8_weightOf_109 : decode cX8_weightOf 109 = .ok (.aload 7, 2) := by decide +kernel
theorem dX8_weightOf_111 : decode cX8_weightOf 111 = .ok (.iconst 2, 1) := by decide +kernel
theorem dX8_weightOf_112 : decode cX8_weightOf 112 = .ok (.iload_n 3, 1) := by decide +kernel
theorem dX8_weightOf_113 : decode cX8_weightOf 113 = .ok (.iastore, 1) := by decide +kernel
theorem dX8_weightOf_114 : decode cX8_weightOf 114 = .ok (.aload 7, 2) := by decide +kernel
theorem dX8_weightOf_116 : decode cX8_weightOf 116 = .ok (.iconst 3, 1) := by decide +kernel
theorem dX8_weightOf_117 : decode cX8_weightOf 117 = .ok (.iload 4, 2) := by decide +kernel
theorem dX8_weightOf_119 : decode cX8_weightOf 119 = .ok (.iastore, 1) := by decide +kernel
theorem dX8_weightOf_120 : decode cX8_weightOf 120 = .ok (.aload 7, 2) := by decide +kernel
theorem dX8_weightOf_122 : decode cX8_weightOf 122 = .ok (.iconst 4, 1) := by decide +kernel
theorem dX8_weightOf_123 : decode cX8_weightOf 123 = .ok (.iload 5, 2) := by decide +kernel
theorem dX8_weightOf_125 : decode cX8_weightOf 125 = .ok (.iastore, 1) := by decide +kernel
theorem dX8_weightOf_126 : decode cX8_weightOf 126 = .ok (.aload 7, 2) := by decide +kernel
theorem dX8_weightOf_128 : decode cX8_weightOf 128 = .ok (.iconst 5, 1) := by decide +kernel
theorem dX8_weightOf_129 : decode cX8_weightOf 129 = .ok (.aload_n 0, 1) := by decide +kernel
theorem dX8_weightOf_130 : decode cX8_weightOf 130 = .ok (.getfield 22, 3) := by decide +kernel
theorem dX8_weightOf_133 : decode cX8_weightOf 133 = .ok (.getfield 59, 3) := by decide +kernel
theorem dX8_weightOf_136 : decode cX8_weightOf 136 = .ok (.iload_n 2, 1) := by decide +kernel
theorem dX8_weightOf_137 : decode cX8_weightOf 137 = .ok (.iaload, 1) := by decide +kernel
theorem dX8_weightOf_138 : decode cX8_weightOf 138 = .ok (.iastore, 1) := by decide +kernel
theorem dX8_weightOf_139 : decode cX8_weightOf 139 = .ok (.aload 7, 2) := by decide +kernel
theorem dX8_weightOf_141 : decode cX8_weightOf 141 = .ok (.bipush 6, 2) := by decide +kernel
theorem dX8_weightOf_143 : decode cX8_weightOf 143 = .ok (.aload_n 0, 1) := by decide +kernel
theorem dX8_weightOf_144 : decode cX8_weightOf 144 = .ok (.getfield 26, 3) := by decide +kernel
theorem dX8_weightOf_147 : decode cX8_weightOf 147 = .ok (.iastore, 1) := by decide +kernel
theorem dX8_weightOf_148 : decode cX8_weightOf 148 = .ok (.aload 7, 2) := by decide +kernel
theorem dX8_weightOf_150 : decode cX8_weightOf 150 = .ok (.bipush 7, 2) := by decide +kernel
theorem dX8_weightOf_152 : decode cX8_weightOf 152 = .ok (.aload_n 0, 1) := by decide +kernel
theorem dX8_weightOf_153 : decode cX8_weightOf 153 = .ok (.getfield 22, 3) := by decide +kernel
theorem dX8_weightOf_156 : decode cX8_weightOf 156 = .ok (.getfield 62, 3) := by decide +kernel
theorem dX8_weightOf_159 : decode cX8_weightOf 159 = .ok (.iastore, 1) := by decide +kernel
theorem dX8_weightOf_160 : decode cX8_weightOf 160 = .ok (.aload_n 0, 1) := by decide +kernel
theorem dX8_weightOf_161 : decode cX8_weightOf 161 = .ok (.getfield 18, 3) := by decide +kernel
theorem dX8_weightOf_164 : decode cX8_weightOf 164 = .ok (.iload 6, 2) := by decide +kernel
theorem dX8_weightOf_166 : decode cX8_weightOf 166 = .ok (.aload_n 0, 1) := by decide +kernel
theorem dX8_weightOf_167 : decode cX8_weightOf 167 = .ok (.getfield 50, 3) := by decide +kernel
theorem dX8_weightOf_170 : decode cX8_weightOf 170 = .ok (.bipush 7, 2) := by decide +kernel
theorem dX8_weightOf_172 : decode cX8_weightOf 172 = .ok (.ishl, 1) := by decide +kernel
theorem dX8_weightOf_173 : decode cX8_weightOf 173 = .ok (.aload_n 0, 1) := by decide +kernel
theorem dX8_weightOf_174 : decode cX8_weightOf 174 = .ok (.invokevirtual 65, 3) := by decide +kernel
theorem dX8_weightOf_177 : decode cX8_weightOf 177 = .ok (.iadd, 1) := by decide +kernel
theorem dX8_weightOf_178 : decode cX8_weightOf 178 = .ok (.iconst 1, 1) := by decide +kernel
theorem dX8_weightOf_179 : decode cX8_weightOf 179 = .ok (.iadd, 1) := by decide +kernel
theorem dX8_weightOf_180 : decode cX8_weightOf 180 = .ok (.iastore, 1) := by decide +kernel
theorem dX8_weightOf_181 : decode cX8_weightOf 181 = .ok (.aload_n 0, 1) := by decide +kernel
theorem dX8_weightOf_182 : decode cX8_weightOf 182 = .ok (.getfield 18, 3) := by decide +kernel
theorem dX8_weightOf_185 : decode cX8_weightOf 185 = .ok (.iload 6, 2) := by decide +kernel
theorem dX8_weightOf_187 : decode cX8_weightOf 187 = .ok (.iaload, 1) := by decide +kernel
theorem dX8_weightOf_188 : decode cX8_weightOf 188 = .ok (.bipush 127, 2) := by decide +kernel
theorem dX8_weightOf_190 : decode cX8_weightOf 190 = .ok (.iand, 1) := by decide +kernel
theorem dX8_weightOf_191 : decode cX8_weightOf 191 = .ok (.iconst 1, 1) := by decide +kernel
theorem dX8_weightOf_192 : decode cX8_weightOf 192 = .ok (.isub, 1) := by decide +kernel
theorem dX8_weightOf_193 : decode cX8_weightOf 193 = .ok (.ireturn, 1) := by decide +kernel
theorem dX8_askLaw_0 : decode cX8_askLaw 0 = .ok (.iconst 1, 1) := by decide +kernel
theorem dX8_askLaw_1 : decode cX8_askLaw 1 = .ok (.istore_n 1, 1) := by decide +kernel
theorem dX8_askLaw_2 : decode cX8_askLaw 2 = .ok (.iconst 0, 1) := by decide +kernel
theorem dX8_askLaw_3 : decode cX8_askLaw 3 = .ok (.istore_n 2, 1) := by decide +kernel
theorem dX8_askLaw_4 : decode cX8_askLaw 4 = .ok (.iload_n 2, 1) := by decide +kernel
theorem dX8_askLaw_5 : decode cX8_askLaw 5 = .ok (.aload_n 0, 1) := by decide +kernel
theorem dX8_askLaw_6 : decode cX8_askLaw 6 = .ok (.getfield 30, 3) := by decide +kernel
theorem dX8_askLaw_9 : decode cX8_askLaw 9 = .ok (.getfield 69, 3) := by decide +kernel
theorem dX8_askLaw_12 : decode cX8_askLaw 12 = .ok (.if_icmp .ge 109, 3) := by decide +kernel
theorem dX8_askLaw_15 : decode cX8_askLaw 15 = .ok (.aload_n 0, 1) := by decide +kernel
theorem dX8_askLaw_16 : decode cX8_askLaw 16 = .ok (.getfield 30, 3) := by decide +kernel
theorem dX8_askLaw_19 : decode cX8_askLaw 19 = .ok (.iload_n 2, 1) := by decide +kernel
theorem dX8_askLaw_20 : decode cX8_askLaw 20 = .ok (.iconst 2, 1) := by decide +kernel
theorem dX8_askLaw_21 : decode cX8_askLaw 21 = .ok (.invokevirtual 72, 3) := by decide +kernel
theorem dX8_askLaw_24 : decode cX8_askLaw 24 = .ok (.istore_n 3, 1) := by decide +kernel
theorem dX8_askLaw_25 : decode cX8_askLaw 25 = .ok (.iload_n 3, 1) := by decide +kernel
theorem dX8_askLaw_26 : decode cX8_askLaw 26 = .ok (.iconst (-1), 1) := by decide +kernel
theorem dX8_askLaw_27 : decode cX8_askLaw 27 = .ok (.if_icmp .eq 26, 3) := by decide +kernel
theorem dX8_askLaw_30 : decode cX8_askLaw 30 = .ok (.aload_n 0, 1) := by decide +kernel
theorem dX8_askLaw_31 : decode cX8_askLaw 31 = .ok (.getfield 12, 3) := by decide +kernel
theorem dX8_askLaw_34 : decode cX8_askLaw 34 = .ok (.aload_n 0, 1) := by decide +kernel
theorem dX8_askLaw_35 : decode cX8_askLaw 35 = .ok (.getfield 30, 3) := by decide +kernel
theorem dX8_askLaw_38 : decode cX8_askLaw 38 = .ok (.getfield 76, 3) := by decide +kernel
theorem dX8_askLaw_41 : decode cX8_askLaw 41 = .ok (.iload_n 3, 1) := by decide +kernel
theorem dX8_askLaw_42 : decode cX8_askLaw 42 = .ok (.invokevirtual 79, 3) := by decide +kernel
theorem dX8_askLaw_45 : decode cX8_askLaw 45 = .ok (.lconst 1, 1) := by decide +kernel
theorem dX8_askLaw_46 : decode cX8_askLaw 46 = .ok (.lcmp, 1) := by decide +kernel
theorem dX8_askLaw_47 : decode cX8_askLaw 47 = .ok (.ifCond .eq 6, 3) := by decide +kernel
theorem dX8_askLaw_50 : decode cX8_askLaw 50 = .ok (.goto 65, 3) := by decide +kernel
theorem dX8_askLaw_53 : decode cX8_askLaw 53 = .ok (.aload_n 0, 1) := by decide +kernel
theorem dX8_askLaw_54 : decode cX8_askLaw 54 = .ok (.getfield 30, 3) := by decide +kernel
theorem dX8_askLaw_57 : decode cX8_askLaw 57 = .ok (.iload_n 2, 1) := by decide +kernel
theorem dX8_askLaw_58 : decode cX8_askLaw 58 = .ok (.iconst 0, 1) := by decide +kernel
theorem dX8_askLaw_59 : decode cX8_askLaw 59 = .ok (.invokevirtual 72, 3) := by decide +kernel
theorem dX8_askLaw_62 : decode cX8_askLaw 62 = .ok (.ifCond .eq 5, 3) := by decide +kernel
theorem dX8_askLaw_65 : decode cX8_askLaw 65 = .ok (.iconst (-1), 1) := by decide +kernel
theorem dX8_askLaw_66 : decode cX8_askLaw 66 = .ok (.ireturn, 1) := by decide +kernel
theorem dX8_askLaw_67 : decode cX8_askLaw 67 = .ok (.aload_n 0, 1) := by decide +kernel
theorem dX8_askLaw_68 : decode cX8_askLaw 68 = .ok (.getfield 12, 3) := by decide +kernel
theorem dX8_askLaw_71 : decode cX8_askLaw 71 = .ok (.aload_n 0, 1) := by decide +kernel
theorem dX8_askLaw_72 : decode cX8_askLaw 72 = .ok (.getfield 30, 3) := by decide +kernel
theorem dX8_askLaw_75 : decode cX8_askLaw 75 = .ok (.getfield 76, 3) := by decide +kernel
theorem dX8_askLaw_78 : decode cX8_askLaw 78 = .ok (.aload_n 0, 1) := by decide +kernel
theorem dX8_askLaw_79 : decode cX8_askLaw 79 = .ok (.getfield 30, 3) := by decide +kernel
theorem dX8_askLaw_82 : decode cX8_askLaw 82 = .ok (.iload_n 2, 1) := by decide +kernel
theorem dX8_askLaw_83 : decode cX8_askLaw 83 = .ok (.iconst 3, 1) := by decide +kernel
theorem dX8_askLaw_84 : decode cX8_askLaw 84 = .ok (.invokevirtual 72, 3) := by decide +kernel
theorem dX8_askLaw_87 : decode cX8_askLaw 87 = .ok (.invokevirtual 79, 3) := by decide +kernel
theorem dX8_askLaw_90 : decode cX8_askLaw 90 = .ok (.lstore 4, 2) := by decide +kernel
theorem dX8_askLaw_92 : decode cX8_askLaw 92 = .ok (.lload 4, 2) := by decide +kernel
theorem dX8_askLaw_94 : decode cX8_askLaw 94 = .ok (.ldc2_w 83, 3) := by decide +kernel
theorem dX8_askLaw_97 : decode cX8_askLaw 97 = .ok (.lcmp, 1) := by decide +kernel
theorem dX8_askLaw_98 : decode cX8_askLaw 98 = .ok (.ifCond .eq 17, 3) := by decide +kernel
theorem dX8_askLaw_101 : decode cX8_askLaw 101 = .ok (.lconst 0, 1) := by decide +kernel
theorem dX8_askLaw_102 : decode cX8_askLaw 102 = .ok (.ldc2_w 85, 3) := by decide +kernel
theorem dX8_askLaw_105 : decode cX8_askLaw 105 = .ok (.lload 4, 2) := by decide +kernel
theorem dX8_askLaw_107 : decode cX8_askLaw 107 = .ok (.invokestatic 87, 3) := by decide +kernel
theorem dX8_askLaw_110 : decode cX8_askLaw 110 = .ok (.invokestatic 93, 3) := by decide +kernel
theorem dX8_askLaw_113 : decode cX8_askLaw 113 = .ok (.l2i, 1) := by decide +kernel
theorem dX8_askLaw_114 : decode cX8_askLaw 114 = .ok (.istore_n 1, 1) := by decide +kernel
theorem dX8_askLaw_115 : decode cX8_askLaw 115 = .ok (.iinc 2 1, 3) := by decide +kernel
theorem dX8_askLaw_118 : decode cX8_askLaw 118 = .ok (.goto (-114), 3) := by decide +kernel
theorem dX8_askLaw_121 : decode cX8_askLaw 121 = .ok (.iload_n 1, 1) := by decide +kernel
theorem dX8_askLaw_122 : decode cX8_askLaw 122 = .ok (.ireturn, 1) := by decide +kernel
theorem dX9_init_0 : decode cX9_init 0 = .ok (.aload_n 0, 1) := by decide +kernel
theorem dX9_init_1 : decode cX9_init 1 = .ok (.invokespecial 3, 3) := by decide +kernel
theorem dX9_init_4 : decode cX9_init 4 = .ok (.aload_n 0, 1) := by decide +kernel
theorem dX9_init_5 : decode cX9_init 5 = .ok (.iload_n 1, 1) := by decide +kernel
theorem dX9_init_6 : decode cX9_init 6 = .ok (.bipush 6, 2) := by decide +kernel
theorem dX9_init_8 : decode cX9_init 8 = .ok (.imul, 1) := by decide +kernel
theorem dX9_init_9 : decode cX9_init 9 = .ok (.newarray .int, 2) := by decide +kernel
theorem dX9_init_11 : decode cX9_init 11 = .ok (.putfield 11, 3) := by decide +kernel
theorem dX9_init_14 : decode cX9_init 14 = .ok (.aload_n 0, 1) := by decide +kernel
theorem dX9_init_15 : decode cX9_init 15 = .ok (.iload_n 2, 1) := by decide +kernel
theorem dX9_init_16 : decode cX9_init 16 = .ok (.newarray .int, 2) := by decide +kernel
theorem dX9_init_18 : decode cX9_init 18 = .ok (.putfield 15, 3) := by decide +kernel
theorem dX9_init_21 : decode cX9_init 21 = .ok (.return_, 1) := by decide +kernel
theorem dX9_kept_0 : decode cX9_kept 0 = .ok (.new 9, 3) := by decide +kernel
theorem dX9_kept_3 : decode cX9_kept 3 = .ok (.dup, 1) := by decide +kernel
theorem dX9_kept_4 : decode cX9_kept 4 = .ok (.aload_n 0, 1) := by decide +kernel
theorem dX9_kept_5 : decode cX9_kept 5 = .ok (.getfield 18, 3) := by decide +kernel
theorem dX9_kept_8 : decode cX9_kept 8 = .ok (.aload_n 0, 1) := by decide +kernel
theorem dX9_kept_9 : decode cX9_kept 9 = .ok (.getfield 22, 3) := by decide +kernel
theorem dX9_kept_12 : decode cX9_kept 12 = .ok (.invokespecial 25, 3) := by decide +kernel
theorem dX9_kept_15 : decode cX9_kept 15 = .ok (.astore_n 1, 1) := by decide +kernel
theorem dX9_kept_16 : decode cX9_kept 16 = .ok (.aload_n 0, 1) := by decide +kernel
theorem dX9_kept_17 : decode cX9_kept 17 = .ok (.getfield 11, 3) := by decide +kernel
theorem dX9_kept_20 : decode cX9_kept 20 = .ok (.iconst 0, 1) := by decide +kernel
theorem dX9_kept_21 : decode cX9_kept 21 = .ok (.aload_n 1, 1) := by decide +kernel
theorem dX9_kept_22 : decode cX9_kept 22 = .ok (.getfield 11, 3) := by decide +kernel
theorem dX9_kept_25 : decode cX9_kept 25 = .ok (.iconst 0, 1) := by decide +kernel
theorem dX9_kept_26 : decode cX9_kept 26 = .ok (.aload_n 0, 1) := by decide +kernel
theorem dX9_kept_27 : decode cX9_kept 27 = .ok (.getfield 18, 3) := by decide +kernel
theorem dX9_kept_30 : decode cX9_kept 30 = .ok (.bipush 6, 2) := by decide +kernel
theorem dX9_kept_32 : decode cX9_kept 32 = .ok (.imul, 1) := by decide +kernel
theorem dX9_kept_33 : decode cX9_kept 33 = .ok (.invokestatic 28, 3) := by decide +kernel
theorem dX9_kept_36 : decode cX9_kept 36 = .ok (.aload_n 0, 1) := by decide +kernel
theorem dX9_kept_37 : decode cX9_kept 37 = .ok (.getfield 15, 3) := by decide +kernel
theorem dX9_kept_40 : decode cX9_kept 40 = .ok (.iconst 0, 1) := by decide +kernel
theorem dX9_kept_41 : decode cX9_kept 41 = .ok (.aload_n 1, 1) := by decide +kernel
theorem dX9_kept_42 : decode cX9_kept 42 = .ok (.getfield 15, 3) := by decide +kernel
theorem dX9_kept_45 : decode cX9_kept 45 = .ok (.iconst 0, 1) := by decide +kernel
theorem dX9_kept_46 : decode cX9_kept 46 = .ok (.aload_n 0, 1) := by decide +kernel
theorem dX9_kept_47 : decode cX9_kept 47 = .ok (.getfield 22, 3) := by decide +kernel
theorem dX9_kept_50 : decode cX9_kept 50 = .ok (.invokestatic 28, 3) := by decide +kernel
theorem dX9_kept_53 : decode cX9_kept 53 = .ok (.aload_n 1, 1) := by decide +kernel
theorem dX9_kept_54 : decode cX9_kept 54 = .ok (.aload_n 0, 1) := by decide +kernel
theorem dX9_kept_55 : decode cX9_kept 55 = .ok (.getfield 18, 3) := by decide +kernel
theorem dX9_kept_58 : decode cX9_kept 58 = .ok (.putfield 18, 3) := by decide +kernel
theorem dX9_kept_61 : decode cX9_kept 61 = .ok (.aload_n 1, 1) := by decide +kernel
theorem dX9_kept_62 : decode cX9_kept 62 = .ok (.aload_n 0, 1) := by decide +kernel
theorem dX9_kept_63 : decode cX9_kept 63 = .ok (.getfield 22, 3) := by decide +kernel
theorem dX9_kept_66 : decode cX9_kept 66 = .ok (.putfield 22, 3) := by decide +kernel
theorem dX9_kept_69 : decode cX9_kept 69 = .ok (.aload_n 1, 1) := by decide +kernel
theorem dX9_kept_70 : decode cX9_kept 70 = .ok (.aload_n 0, 1) := by decide +kernel
theorem dX9_kept_71 : decode cX9_kept 71 = .ok (.getfield 34, 3) := by decide +kernel
theorem dX9_kept_74 : decode cX9_kept 74 = .ok (.putfield 34, 3) := by decide +kernel
theorem dX9_kept_77 : decode cX9_kept 77 = .ok (.aload_n 1, 1) := by decide +kernel
theorem dX9_kept_78 : decode cX9_kept 78 = .ok (.areturn, 1) := by decide +kernel
theorem dX9_clear_0 : decode cX9_clear 0 = .ok (.aload_n 0, 1) := by decide +kernel
theorem dX9_clear_1 : decode cX9_clear 1 = .ok (.iconst 0, 1) := by decide +kernel
theorem dX9_clear_2 : decode cX9_clear 2 = .ok (.putfield 18, 3) := by decide +kernel
theorem dX9_clear_5 : decode cX9_clear 5 = .ok (.aload_n 0, 1) := by decide +kernel
theorem dX9_clear_6 : decode cX9_clear 6 = .ok (.iconst 0, 1) := by decide +kernel
theorem dX9_clear_7 : decode cX9_clear 7 = .ok (.putfield 22, 3) := by decide +kernel
theorem dX9_clear_10 : decode cX9_clear 10 = .ok (.aload_n 0, 1) := by decide +kernel
theorem dX9_clear_11 : decode cX9_clear 11 = .ok (.iconst 0, 1) := by decide +kernel
theorem dX9_clear_12 : decode cX9_clear 12 = .ok (.putfield 34, 3) := by decide +kernel
theorem dX9_clear_15 : decode cX9_clear 15 = .ok (.return_, 1) := by decide +kernel
theorem dX9_open_0 : decode cX9_open 0 = .ok (.aload_n 0, 1) := by decide +kernel
theorem dX9_open_1 : decode cX9_open 1 = .ok (.dup, 1) := by decide +kernel
theorem dX9_open_2 : decode cX9_open 2 = .ok (.getfield 18, 3) := by decide +kernel
theorem dX9_open_5 : decode cX9_open 5 = .ok (.iconst 1, 1) := by decide +kernel
theorem dX9_open_6 : decode cX9_open 6 = .ok (.iadd, 1) := by decide +kernel
theorem dX9_open_7 : decode cX9_open 7 = .ok (.putfield 18, 3) := by decide +kernel
theorem dX9_open_10 : decode cX9_open 10 = .ok (.aload_n 0, 1) := by decide +kernel
theorem dX9_open_11 : decode cX9_open 11 = .ok (.iconst 0, 1) := by decide +kernel
theorem dX9_open_12 : decode cX9_open 12 = .ok (.iload_n 1, 1) := by decide +kernel
theorem dX9_open_13 : decode cX9_open 13 = .ok (.invokevirtual 38, 3) := by decide +kernel
theorem dX9_open_16 : decode cX9_open 16 = .ok (.aload_n 0, 1) := by decide +kernel
theorem dX9_open_17 : decode cX9_open 17 = .ok (.iconst 1, 1) := by decide +kernel
theorem dX9_open_18 : decode cX9_open 18 = .ok (.iconst 1, 1) := by decide +kernel
theorem dX9_open_19 : decode cX9_open 19 = .ok (.invokevirtual 38, 3) := by decide +kernel
theorem dX9_open_22 : decode cX9_open 22 = .ok (.iconst 2, 1) := by decide +kernel
theorem dX9_open_23 : decode cX9_open 23 = .ok (.istore_n 2, 1) := by decide +kernel
theorem dX9_open_24 : decode cX9_open 24 = .ok (.iload_n 2, 1) := by decide +kernel
theorem dX9_open_25 : decode cX9_open 25 = .ok (.bipush 6, 2) := by decide +kernel
theorem dX9_open_27 : decode cX9_open 27 = .ok (.if_icmp .ge 15, 3) := by decide +kernel
theorem dX9_open_30 : decode cX9_open 30 = .ok (.aload_n 0, 1) := by decide +kernel
theorem dX9_open_31 : decode cX9_open 31 = .ok (.iload_n 2, 1) := by decide +kernel
theorem dX9_open_32 : decode cX9_open 32 = .ok (.iconst (-1), 1) := by decide +kernel
theorem dX9_open_33 : decode cX9_open 33 = .ok (.invokevirtual 38, 3) := by decide +kernel
theorem dX9_open_36 : decode cX9_open 36 = .ok (.iinc 2 1, 3) := by decide +kernel
theorem dX9_open_39 : decode cX9_open 39 = .ok (.goto (-15), 3) := by decide +kernel
theorem dX9_open_42 : decode cX9_open 42 = .ok (.return_, 1) := by decide +kernel
theorem dX9_set_0 : decode cX9_set 0 = .ok (.aload_n 0, 1) := by decide +kernel
theorem dX9_set_1 : decode cX9_set 1 = .ok (.getfield 18, 3) := by decide +kernel
theorem dX9_set_4 : decode cX9_set 4 = .ok (.iconst 1, 1) := by decide +kernel
theorem dX9_set_5 : decode cX9_set 5 = .ok (.isub, 1) := by decide +kernel
theorem dX9_set_6 : decode cX9_set 6 = .ok (.bipush 6, 2) := by decide +kernel
theorem dX9_set_8 : decode cX9_set 8 = .ok (.imul, 1) := by decide +kernel
theorem dX9_set_9 : decode cX9_set 9 = .ok (.iload_n 1, 1) := by decide +kernel
theorem dX9_set_10 : decode cX9_set 10 = .ok (.iadd, 1) := by decide +kernel
theorem dX9_set_11 : decode cX9_set 11 = .ok (.istore_n 3, 1) := by decide +kernel
theorem dX9_set_12 : decode cX9_set 12 = .ok (.iload_n 3, 1) := by decide +kernel
theorem dX9_set_13 : decode cX9_set 13 = .ok (.ifCond .lt 19, 3) := by decide +kernel
theorem dX9_set_16 : decode cX9_set 16 = .ok (.iload_n 3, 1) := by decide +kernel
theorem dX9_set_17 : decode cX9_set 17 = .ok (.aload_n 0, 1) := by decide +kernel
theorem dX9_set_18 : decode cX9_set 18 = .ok (.getfield 11, 3) := by decide +kernel
theorem dX9_set_21 : decode cX9_set 21 = .ok (.arraylength, 1) := by decide +kernel
theorem dX9_set_22 : decode cX9_set 22 = .ok (.if_icmp .ge 10, 3) := by decide +kernel
theorem dX9_set_25 : decode cX9_set 25 = .ok (.aload_n 0, 1) := by decide +kernel
theorem dX9_set_26 : decode cX9_set 26 = .ok (.getfield 11, 3) := by decide +kernel
theorem dX9_set_29 : decode cX9_set 29 = .ok (.iload_n 3, 1) := by decide +kernel
theorem dX9_set_30 : decode cX9_set 30 = .ok (.iload_n 2, 1) := by decide +kernel
theorem dX9_set_31 : decode cX9_set 31 = .ok (.iastore, 1) := by decide +kernel
theorem dX9_set_32 : decode cX9_set 32 = .ok (.return_, 1) := by decide +kernel
theorem dX9_told_0 : decode cX9_told 0 = .ok (.iload_n 1, 1) := by decide +kernel
theorem dX9_told_1 : decode cX9_told 1 = .ok (.bipush 6, 2) := by decide +kernel
theorem dX9_told_3 : decode cX9_told 3 = .ok (.imul, 1) := by decide +kernel
theorem dX9_told_4 : decode cX9_told 4 = .ok (.iload_n 2, 1) := by decide +kernel
theorem dX9_told_5 : decode cX9_told 5 = .ok (.iadd, 1) := by decide +kernel
theorem dX9_told_6 : decode cX9_told 6 = .ok (.istore_n 3, 1) := by decide +kernel
theorem dX9_told_7 : decode cX9_told 7 = .ok (.iload_n 3, 1) := by decide +kernel
theorem dX9_told_8 : decode cX9_told 8 = .ok (.ifCond .lt 21, 3) := by decide +kernel
theorem dX9_told_11 : decode cX9_told 11 = .ok (.iload_n 3, 1) := by decide +kernel
theorem dX9_told_12 : decode cX9_told 12 = .ok (.aload_n 0, 1) := by decide +kernel
theorem dX9_told_13 : decode cX9_told 13 = .ok (.getfield 11, 3) := by decide +kernel
theorem dX9_told_16 : decode cX9_told 16 = .ok (.arraylength, 1) := by decide +kernel
theorem dX9_told_17 : decode cX9_told 17 = .ok (.if_icmp .ge 12, 3) := by decide +kernel
theorem dX9_told_20 : decode cX9_told 20 = .ok (.aload_n 0, 1) := by decide +kernel
theorem dX9_told_21 : decode cX9_told 21 = .ok (.getfield 11, 3) := by decide +kernel
theorem dX9_told_24 : decode cX9_told 24 = .ok (.iload_n 3, 1) := by decide +kernel
theorem dX9_told_25 : decode cX9_told 25 = .ok (.iaload, 1) := by decide +kernel
theorem dX9_told_26 : decode cX9_told 26 = .ok (.goto 4, 3) := by decide +kernel
theorem dX9_told_29 : decode cX9_told 29 = .ok (.iconst (-1), 1) := by decide +kernel
theorem dX9_told_30 : decode cX9_told 30 = .ok (.ireturn, 1) := by decide +kernel
theorem dX9_emit_0 : decode cX9_emit 0 = .ok (.aload_n 0, 1) := by decide +kernel
theorem dX9_emit_1 : decode cX9_emit 1 = .ok (.getfield 22, 3) := by decide +kernel
theorem dX9_emit_4 : decode cX9_emit 4 = .ok (.aload_n 0, 1) := by decide +kernel
theorem dX9_emit_5 : decode cX9_emit 5 = .ok (.getfield 15, 3) := by decide +kernel
theorem dX9_emit_8 : decode cX9_emit 8 = .ok (.arraylength, 1) := by decide +kernel
theorem dX9_emit_9 : decode cX9_emit 9 = .ok (.if_icmp .ge 28, 3) := by decide +kernel
theorem dX9_emit_12 : decode cX9_emit 12 = .ok (.aload_n 0, 1) := by decide +kernel
theorem dX9_emit_13 : decode cX9_emit 13 = .ok (.getfield 15, 3) := by decide +kernel
theorem dX9_emit_16 : decode cX9_emit 16 = .ok (.aload_n 0, 1) := by decide +kernel
theorem dX9_emit_17 : decode cX9_emit 17 = .ok (.getfield 22, 3) := by decide +kernel
theorem dX9_emit_20 : decode cX9_emit 20 = .ok (.iload_n 2, 1) := by decide +kernel
theorem dX9_emit_21 : decode cX9_emit 21 = .ok (.bipush 16, 2) := by decide +kernel
theorem dX9_emit_23 : decode cX9_emit 23 = .ok (.imul, 1) := by decide +kernel
theorem dX9_emit_24 : decode cX9_emit 24 = .ok (.iload_n 1, 1) := by decide +kernel
theorem dX9_emit_25 : decode cX9_emit 25 = .ok (.iadd, 1) := by decide +kernel
theorem dX9_emit_26 : decode cX9_emit 26 = .ok (.iastore, 1) := by decide +kernel
theorem dX9_emit_27 : decode cX9_emit 27 = .ok (.aload_n 0, 1) := by decide +kernel
theorem dX9_emit_28 : decode cX9_emit 28 = .ok (.dup, 1) := by decide +kernel
theorem dX9_emit_29 : decode cX9_emit 29 = .ok (.getfield 22, 3) := by decide +kernel
theorem dX9_emit_32 : decode cX9_emit 32 = .ok (.iconst 1, 1) := by decide +kernel
theorem dX9_emit_33 : decode cX9_emit 33 = .ok (.iadd, 1) := by decide +kernel
theorem dX9_emit_34 : decode cX9_emit 34 = .ok (.putfield 22, 3) := by decide +kernel
theorem dX9_emit_37 : decode cX9_emit 37 = .ok (.aload_n 0, 1) := by decide +kernel
theorem dX9_emit_38 : decode cX9_emit 38 = .ok (.getfield 22, 3) := by decide +kernel
theorem dX9_emit_41 : decode cX9_emit 41 = .ok (.iconst 1, 1) := by decide +kernel
theorem dX9_emit_42 : decode cX9_emit 42 = .ok (.isub, 1) := by decide +kernel
theorem dX9_emit_43 : decode cX9_emit 43 = .ok (.ireturn, 1) := by decide +kernel
theorem dX9_aim_0 : decode cX9_aim 0 = .ok (.iload_n 1, 1) := by decide +kernel
theorem dX9_aim_1 : decode cX9_aim 1 = .ok (.ifCond .lt 27, 3) := by decide +kernel
theorem dX9_aim_4 : decode cX9_aim 4 = .ok (.iload_n 1, 1) := by decide +kernel
theorem dX9_aim_5 : decode cX9_aim 5 = .ok (.aload_n 0, 1) := by decide +kernel
theorem dX9_aim_6 : decode cX9_aim 6 = .ok (.getfield 22, 3) := by decide +kernel
theorem dX9_aim_9 : decode cX9_aim 9 = .ok (.if_icmp .ge 19, 3) := by decide +kernel
theorem dX9_aim_12 : decode cX9_aim 12 = .ok (.aload_n 0, 1) := by decide +kernel
theorem dX9_aim_13 : decode cX9_aim 13 = .ok (.getfield 15, 3) := by decide +kernel
theorem dX9_aim_16 : decode cX9_aim 16 = .ok (.iload_n 1, 1) := by decide +kernel
theorem dX9_aim_17 : decode cX9_aim 17 = .ok (.dup2, 1) := by decide +kernel
theorem dX9_aim_18 : decode cX9_aim 18 = .ok (.iaload, 1) := by decide +kernel
theorem dX9_aim_19 : decode cX9_aim 19 = .ok (.aload_n 0, 1) := by decide +kernel
theorem dX9_aim_20 : decode cX9_aim 20 = .ok (.getfield 22, 3) := by decide +kernel
theorem dX9_aim_23 : decode cX9_aim 23 = .ok (.bipush 16, 2) := by decide +kernel
theorem dX9_aim_25 : decode cX9_aim 25 = .ok (.imul, 1) := by decide +kernel
theorem dX9_aim_26 : decode cX9_aim 26 = .ok (.iadd, 1) := by decide +kernel
theorem dX9_aim_27 : decode cX9_aim 27 = .ok (.iastore, 1) := by decide +kernel
theorem dX9_aim_28 : decode cX9_aim 28 = .ok (.return_, 1) := by decide +kernel
theorem dX10_init_0 : decode cX10_init 0 = .ok (.aload_n 0, 1) := by decide +kernel
theorem dX10_init_1 : decode cX10_init 1 = .ok (.invokespecial 3, 3) := by decide +kernel
theorem dX10_init_4 : decode cX10_init 4 = .ok (.aload_n 0, 1) := by decide +kernel
theorem dX10_init_5 : decode cX10_init 5 = .ok (.bipush 6, 2) := by decide +kernel
theorem dX10_init_7 : decode cX10_init 7 = .ok (.newarray .int, 2) := by decide +kernel
theorem dX10_init_9 : decode cX10_init 9 = .ok (.putfield 9, 3) := by decide +kernel
theorem dX10_init_12 : decode cX10_init 12 = .ok (.aload_n 0, 1) := by decide +kernel
theorem dX10_init_13 : decode cX10_init 13 = .ok (.bipush 6, 2) := by decide +kernel
theorem dX10_init_15 : decode cX10_init 15 = .ok (.newarray .int, 2) := by decide +kernel
theorem dX10_init_17 : decode cX10_init 17 = .ok (.dup, 1) := by decide +kernel
theorem dX10_init_18 : decode cX10_init 18 = .ok (.iconst 0, 1) := by decide +kernel
theorem dX10_init_19 : decode cX10_init 19 = .ok (.iconst 1, 1) := by decide +kernel
theorem dX10_init_20 : decode cX10_init 20 = .ok (.iastore, 1) := by decide +kernel
theorem dX10_init_21 : decode cX10_init 21 = .ok (.dup, 1) := by decide +kernel
theorem dX10_init_22 : decode cX10_init 22 = .ok (.iconst 1, 1) := by decide +kernel
theorem dX10_init_23 : decode cX10_init 23 = .ok (.iconst 1, 1) := by decide +kernel
theorem dX10_init_24 : decode cX10_init 24 = .ok (.iastore, 1) := by decide +kernel
theorem dX10_init_25 : decode cX10_init 25 = .ok (.dup, 1) := by decide +kernel
theorem dX10_init_26 : decode cX10_init 26 = .ok (.iconst 2, 1) := by decide +kernel
theorem dX10_init_27 : decode cX10_init 27 = .ok (.iconst 1, 1) := by decide +kernel
theorem dX10_init_28 : decode cX10_init 28 = .ok (.iastore, 1) := by decide +kernel
theorem dX10_init_29 : decode cX10_init 29 = .ok (.dup, 1) := by decide +kernel
theorem dX10_init_30 : decode cX10_init 30 = .ok (.iconst 3, 1) := by decide +kernel
theorem dX10_init_31 : decode cX10_init 31 = .ok (.iconst 1, 1) := by decide +kernel
theorem dX10_init_32 : decode cX10_init 32 = .ok (.iastore, 1) := by decide +kernel
theorem dX10_init_33 : decode cX10_init 33 = .ok (.dup, 1) := by decide +kernel
theorem dX10_init_34 : decode cX10_init 34 = .ok (.iconst 4, 1) := by decide +kernel
theorem dX10_init_35 : decode cX10_init 35 = .ok (.iconst 1, 1) := by decide +kernel
theorem dX10_init_36 : decode cX10_init 36 = .ok (.iastore, 1) := by decide +kernel
theorem dX10_init_37 : decode cX10_init 37 = .ok (.dup, 1) := by decide +kernel
theorem dX10_init_38 : decode cX10_init 38 = .ok (.iconst 5, 1) := by decide +kernel
theorem dX10_init_39 : decode cX10_init 39 = .ok (.iconst 1, 1) := by decide +kernel
theorem dX10_init_40 : decode cX10_init 40 = .ok (.iastore, 1) := by decide +kernel
theorem dX10_init_41 : decode cX10_init 41 = .ok (.putfield 15, 3) := by decide +kernel
theorem dX10_init_44 : decode cX10_init 44 = .ok (.aload_n 0, 1) := by decide +kernel
theorem dX10_init_45 : decode cX10_init 45 = .ok (.bipush 6, 2) := by decide +kernel
theorem dX10_init_47 : decode cX10_init 47 = .ok (.newarray .int, 2) := by decide +kernel
theorem dX10_init_49 : decode cX10_init 49 = .ok (.dup, 1) := by decide +kernel
theorem dX10_init_50 : decode cX10_init 50 = .ok (.iconst 0, 1) := by decide +kernel
theorem dX10_init_51 : decode cX10_init 51 = .ok (.iconst (-1), 1) := by decide +kernel
theorem dX10_init_52 : decode cX10_init 52 = .ok (.iastore, 1) := by decide +kernel
theorem dX10_init_53 : decode cX10_init 53 = .ok (.dup, 1) := by decide +kernel
theorem dX10_init_54 : decode cX10_init 54 = .ok (.iconst 1, 1) := by decide +kernel
theorem dX10_init_55 : decode cX10_init 55 = .ok (.iconst (-1), 1) := by decide +kernel
theorem dX10_init_56 : decode cX10_init 56 = .ok (.iastore, 1) := by decide +kernel
theorem dX10_init_57 : decode cX10_init 57 = .ok (.dup, 1) := by decide +kernel
theorem dX10_init_58 : decode cX10_init 58 = .ok (.iconst 2, 1) := by decide +kernel
theorem dX10_init_59 : decode cX10_init 59 = .ok (.iconst (-1), 1) := by decide +kernel
theorem dX10_init_60 : decode cX10_init 60 = .ok (.iastore, 1) := by decide +kernel
theorem dX10_init_61 : decode cX10_init 61 = .ok (.dup, 1) := by decide +kernel
theorem dX10_init_62 : decode cX10_init 62 = .ok (.iconst 3, 1) := by decide +kernel
theorem dX10_init_63 : decode cX10_init 63 = .ok (.iconst (-1), 1) := by decide +kernel
theorem dX10_init_64 : decode cX10_init 64 = .ok (.iastore, 1) := by decide +kernel
theorem dX10_init_65 : decode cX10_init 65 = .ok (.dup, 1) := by decide +kernel
theorem dX10_init_66 : decode cX10_init 66 = .ok (.iconst 4, 1) := by decide +kernel
theorem dX10_init_67 : decode cX10_init 67 = .ok (.iconst (-1), 1) := by decide +kernel
theorem dX10_init_68 : decode cX10_init 68 = .ok (.iastore, 1) := by decide +kernel
theorem dX10_init_69 : decode cX10_init 69 = .ok (.dup, 1) := by decide +kernel
theorem dX10_init_70 : decode cX10_init 70 = .ok (.iconst 5, 1) := by decide +kernel
theorem dX10_init_71 : decode cX10_init 71 = .ok (.iconst (-1), 1) := by decide +kernel
theorem dX10_init_72 : decode cX10_init 72 = .ok (.iastore, 1) := by decide +kernel
theorem dX10_init_73 : decode cX10_init 73 = .ok (.putfield 18, 3) := by decide +kernel
theorem dX10_init_76 : decode cX10_init 76 = .ok (.aload_n 0, 1) := by decide +kernel
theorem dX10_init_77 : decode cX10_init 77 = .ok (.bipush 12, 2) := by decide +kernel
theorem dX10_init_79 : decode cX10_init 79 = .ok (.newarray .int, 2) := by decide +kernel
theorem dX10_init_81 : decode cX10_init 81 = .ok (.putfield 21, 3) := by decide +kernel
theorem dX10_init_84 : decode cX10_init 84 = .ok (.aload_n 0, 1) := by decide +kernel
theorem dX10_init_85 : decode cX10_init 85 = .ok (.bipush 12, 2) := by decide +kernel
theorem dX10_init_87 : decode cX10_init 87 = .ok (.newarray .int, 2) := by decide +kernel
theorem dX10_init_89 : decode cX10_init 89 = .ok (.putfield 24, 3) := by decide +kernel
theorem dX10_init_92 : decode cX10_init 92 = .ok (.aload_n 0, 1) := by decide +kernel
theorem dX10_init_93 : decode cX10_init 93 = .ok (.bipush 12, 2) := by decide +kernel
theorem dX10_init_95 : decode cX10_init 95 = .ok (.newarray .int, 2) := by decide +kernel
theorem dX10_init_97 : decode cX10_init 97 = .ok (.putfield 27, 3) := by decide +kernel
theorem dX10_init_100 : decode cX10_init 100 = .ok (.aload_n 0, 1) := by decide +kernel
theorem dX10_init_101 : decode cX10_init 101 = .ok (.bipush 12, 2) := by decide +kernel
theorem dX10_init_103 : decode cX10_init 103 = .ok (.newarray .int, 2) := by decide +kernel
theorem dX10_init_105 : decode cX10_init 105 = .ok (.putfield 30, 3) := by decide +kernel
theorem dX10_init_108 : decode cX10_init 108 = .ok (.aload_n 0, 1) := by decide +kernel
theorem dX10_init_109 : decode cX10_init 109 = .ok (.bipush 6, 2) := by decide +kernel
theorem dX10_init_111 : decode cX10_init 111 = .ok (.anewarray 33, 3) := by decide +kernel
theorem dX10_init_114 : decode cX10_init 114 = .ok (.putfield 35, 3) := by decide +kernel
theorem dX10_init_117 : decode cX10_init 117 = .ok (.aload_n 0, 1) := by decide +kernel
theorem dX10_init_118 : decode cX10_init 118 = .ok (.iconst (-1), 1) := by decide +kernel
theorem dX10_init_119 : decode cX10_init 119 = .ok (.putfield 39, 3) := by decide +kernel
theorem dX10_init_122 : decode cX10_init 122 = .ok (.aload_n 0, 1) := by decide +kernel
theorem dX10_init_123 : decode cX10_init 123 = .ok (.iconst 1, 1) := by decide +kernel
theorem dX10_init_124 : decode cX10_init 124 = .ok (.putfield 43, 3) := by decide +kernel
theorem dX10_init_127 : decode cX10_init 127 = .ok (.aload_n 0, 1) := by decide +kernel
theorem dX10_init_128 : decode cX10_init 128 = .ok (.iconst 1, 1) := by decide +kernel
theorem dX10_init_129 : decode cX10_init 129 = .ok (.putfield 46, 3) := by decide +kernel
theorem dX10_init_132 : decode cX10_init 132 = .ok (.return_, 1) := by decide +kernel
theorem dX10_touchRules_0 : decode cX10_touchRules 0 = .ok (.aload_n 0, 1) := by decide +kernel
theorem dX10_touchRules_1 : decode cX10_touchRules 1 = .ok (.dup, 1) := by decide +kernel
theorem dX10_touchRules_2 : decode cX10_touchRules 2 = .ok (.getfield 43, 3) := by decide +kernel
theorem dX10_touchRules_5 : decode cX10_touchRules 5 = .ok (.iconst 1, 1) := by decide +kernel
theorem dX10_touchRules_6 : decode cX10_touchRules 6 = .ok (.iadd, 1) := by decide +kernel
theorem dX10_touchRules_7 : decode cX10_touchRules 7 = .ok (.putfield 43, 3) := by decide +kernel
theorem dX10_touchRules_10 : decode cX10_touchRules 10 = .ok (.aload_n 0, 1) := by decide +kernel
theorem dX10_touchRules_11 : decode cX10_touchRules 11 = .ok (.dup, 1) := by decide +kernel
theorem dX10_touchRules_12 : decode cX10_touchRules 12 = .ok (.getfield 46, 3) := by decide +kernel
theorem dX10_touchRules_15 : decode cX10_touchRules 15 = .ok (.iconst 1, 1) := by decide +kernel
theorem dX10_touchRules_16 : decode cX10_touchRules 16 = .ok (.iadd, 1) := by decide +kernel
theorem dX10_touchRules_17 : decode cX10_touchRules 17 = .ok (.putfield 46, 3) := by decide +kernel
theorem dX10_touchRules_20 : decode cX10_touchRules 20 = .ok (.return_, 1) := by decide +kernel
theorem dX10_takeFrom_0 : decode cX10_takeFrom 0 = .ok (.aload_n 1, 1) := by decide +kernel
theorem dX10_takeFrom_1 : decode cX10_takeFrom 1 = .ok (.getfield 9, 3) := by decide +kernel
theorem dX10_takeFrom_4 : decode cX10_takeFrom 4 = .ok (.iconst 0, 1) := by decide +kernel
theorem dX10_takeFrom_5 : decode cX10_takeFrom 5 = .ok (.aload_n 0, 1) := by decide +kernel
theorem dX10_takeFrom_6 : decode cX10_takeFrom 6 = .ok (.getfield 9, 3) := by decide +kernel
theorem dX10_takeFrom_9 : decode cX10_takeFrom 9 = .ok (.iconst 0, 1) := by decide +kernel
theorem dX10_takeFrom_10 : decode cX10_takeFrom 10 = .ok (.bipush 6, 2) := by decide +kernel
theorem dX10_takeFrom_12 : decode cX10_takeFrom 12 = .ok (.invokestatic 49, 3) := by decide +kernel
theorem dX10_takeFrom_15 : decode cX10_takeFrom 15 = .ok (.aload_n 1, 1) := by decide +kernel
theorem dX10_takeFrom_16 : decode cX10_takeFrom 16 = .ok (.getfield 15, 3) := by decide +kernel
theorem dX10_takeFrom_19 : decode cX10_takeFrom 19 = .ok (.iconst 0, 1) := by decide +kernel
theorem dX10_takeFrom_20 : decode cX10_takeFrom 20 = .ok (.aload_n 0, 1) := by decide +kernel
theorem dX10_takeFrom_21 : decode cX10_takeFrom 21 = .ok (.getfield 15, 3) := by decide +kernel
theorem dX10_takeFrom_24 : decode cX10_takeFrom 24 = .ok (.iconst 0, 1) := by decide +kernel
theorem dX10_takeFrom_25 : decode cX10_takeFrom 25 = .ok (.bipush 6, 2) := by decide +kernel
theorem dX10_takeFrom_27 : decode cX10_takeFrom 27 = .ok (.invokestatic 49, 3) := by decide +kernel
theorem dX10_takeFrom_30 : decode cX10_takeFrom 30 = .ok (.aload_n 1, 1) := by decide +kernel
theorem dX10_takeFrom_31 : decode cX10_takeFrom 31 = .ok (.getfield 18, 3) := by decide +kernel
theorem dX10_takeFrom_34 : decode cX10_takeFrom 34 = .ok (.iconst 0, 1) := by decide +kernel
theorem dX10_takeFrom_35 : decode cX10_takeFrom 35 = .ok (.aload_n 0, 1) := by decide +kernel
theorem dX10_takeFrom_36 : decode cX10_takeFrom 36 = .ok (.getfield 18, 3) := by decide +kernel
theorem dX10_takeFrom_39 : decode cX10_takeFrom 39 = .ok (.iconst 0, 1) := by decide +kernel
theorem dX10_takeFrom_40 : decode cX10_takeFrom 40 = .ok (.bipush 6, 2) := by decide +kernel
theorem dX10_takeFrom_42 : decode cX10_takeFrom 42 = .ok (.invokestatic 49, 3) := by decide +kernel
theorem dX10_takeFrom_45 : decode cX10_takeFrom 45 = .ok (.aload_n 1, 1) := by decide +kernel
theorem dX10_takeFrom_46 : decode cX10_takeFrom 46 = .ok (.getfield 21, 3) := by decide +kernel
theorem dX10_takeFrom_49 : decode cX10_takeFrom 49 = .ok (.iconst 0, 1) := by decide +kernel
theorem dX10_takeFrom_50 : decode cX10_takeFrom 50 = .ok (.aload_n 0, 1) := by decide +kernel
theorem dX10_takeFrom_51 : decode cX10_takeFrom 51 = .ok (.getfield 21, 3) := by decide +kernel
theorem dX10_takeFrom_54 : decode cX10_takeFrom 54 = .ok (.iconst 0, 1) := by decide +kernel
theorem dX10_takeFrom_55 : decode cX10_takeFrom 55 = .ok (.bipush 12, 2) := by decide +kernel
theorem dX10_takeFrom_57 : decode cX10_takeFrom 57 = .ok (.invokestatic 49, 3) := by decide +kernel
theorem dX10_takeFrom_60 : decode cX10_takeFrom 60 = .ok (.aload_n 1, 1) := by decide +kernel
theorem dX10_takeFrom_61 : decode cX10_takeFrom 61 = .ok (.getfield 24, 3) := by decide +kernel
theorem dX10_takeFrom_64 : decode cX10_takeFrom 64 = .ok (.iconst 0, 1) := by decide +kernel
theorem dX10_takeFrom_65 : decode cX10_takeFrom 65 = .ok (.aload_n 0, 1) := by decide +kernel
theorem dX10_takeFrom_66 : decode cX10_takeFrom 66 = .ok (.getfield 24, 3) := by decide +kernel
theorem dX10_takeFrom_69 : decode cX10_takeFrom 69 = .ok (.iconst 0, 1) := by decide +kernel
theorem dX10_takeFrom_70 : decode cX10_takeFrom 70 = .ok (.bipush 12, 2) := by decide +kernel
theorem dX10_takeFrom_72 : decode cX10_takeFrom 72 = .ok (.invokestatic 49, 3) := by decide +kernel
theorem dX10_takeFrom_75 : decode cX10_takeFrom 75 = .ok (.aload_n 1, 1) := by decide +kernel
theorem dX10_takeFrom_76 : decode cX10_takeFrom 76 = .ok (.getfield 27, 3) := by decide +kernel
theorem dX10_takeFrom_79 : decode cX10_takeFrom 79 = .ok (.iconst 0, 1) := by decide +kernel
theorem dX10_takeFrom_80 : decode cX10_takeFrom 80 = .ok (.aload_n 0, 1) := by decide +kernel
theorem dX10_takeFrom_81 : decode cX10_takeFrom 81 = .ok (.getfield 27, 3) := by decide +kernel
theorem dX10_takeFrom_84 : decode cX10_takeFrom 84 = .ok (.iconst 0, 1) := by decide +kernel
theorem dX10_takeFrom_85 : decode cX10_takeFrom 85 = .ok (.bipush 12, 2) := by decide +kernel
theorem dX10_takeFrom_87 : decode cX10_takeFrom 87 = .ok (.invokestatic 49, 3) := by decide +kernel
theorem dX10_takeFrom_90 : decode cX10_takeFrom 90 = .ok (.aload_n 1, 1) := by decide +kernel
theorem dX10_takeFrom_91 : decode cX10_takeFrom 91 = .ok (.getfield 30, 3) := by decide +kernel
theorem dX10_takeFrom_94 : decode cX10_takeFrom 94 = .ok (.iconst 0, 1) := by decide +kernel
theorem dX10_takeFrom_95 : decode cX10_takeFrom 95 = .ok (.aload_n 0, 1) := by decide +kernel
theorem dX10_takeFrom_96 : decode cX10_takeFrom 96 = .ok (.getfield 30, 3) := by decide +kernel
theorem dX10_takeFrom_99 : decode cX10_takeFrom 99 = .ok (.iconst 0, 1) := by decide +kernel
theorem dX10_takeFrom_100 : decode cX10_takeFrom 100 = .ok (.bipush 12, 2) := by decide +kernel
theorem dX10_takeFrom_102 : decode cX10_takeFrom 102 = .ok (.invokestatic 49, 3) := by decide +kernel
theorem dX10_takeFrom_105 : decode cX10_takeFrom 105 = .ok (.aload_n 1, 1) := by decide +kernel
theorem dX10_takeFrom_106 : decode cX10_takeFrom 106 = .ok (.getfield 35, 3) := by decide +kernel
theorem dX10_takeFrom_109 : decode cX10_takeFrom 109 = .ok (.iconst 0, 1) := by decide +kernel
theorem dX10_takeFrom_110 : decode cX10_takeFrom 110 = .ok (.aload_n 0, 1) := by decide +kernel
theorem dX10_takeFrom_111 : decode cX10_takeFrom 111 = .ok (.getfield 35, 3) := by decide +kernel
theorem dX10_takeFrom_114 : decode cX10_takeFrom 114 = .ok (.iconst 0, 1) := by decide +kernel
theorem dX10_takeFrom_115 : decode cX10_takeFrom 115 = .ok (.bipush 6, 2) := by decide +kernel
theorem dX10_takeFrom_117 : decode cX10_takeFrom 117 = .ok (.invokestatic 49, 3) := by decide +kernel
theorem dX10_takeFrom_120 : decode cX10_takeFrom 120 = .ok (.aload_n 0, 1) := by decide +kernel
theorem dX10_takeFrom_121 : decode cX10_takeFrom 121 = .ok (.aload_n 1, 1) := by decide +kernel
theorem dX10_takeFrom_122 : decode cX10_takeFrom 122 = .ok (.getfield 55, 3) := by decide +kernel
theorem dX10_takeFrom_125 : decode cX10_takeFrom 125 = .ok (.putfield 55, 3) := by decide +kernel
theorem dX10_takeFrom_128 : decode cX10_takeFrom 128 = .ok (.aload_n 0, 1) := by decide +kernel
theorem dX10_takeFrom_129 : decode cX10_takeFrom 129 = .ok (.aload_n 1, 1) := by decide +kernel
theorem dX10_takeFrom_130 : decode cX10_takeFrom 130 = .ok (.getfield 58, 3) := by decide +kernel
theorem dX10_takeFrom_133 : decode cX10_takeFrom 133 = .ok (.putfield 58, 3) := by decide +kernel
theorem dX10_takeFrom_136 : decode cX10_takeFrom 136 = .ok (.aload_n 0, 1) := by decide +kernel
theorem dX10_takeFrom_137 : decode cX10_takeFrom 137 = .ok (.aload_n 1, 1) := by decide +kernel
theorem dX10_takeFrom_138 : decode cX10_takeFrom 138 = .ok (.getfield 39, 3) := by decide +kernel
theorem dX10_takeFrom_141 : decode cX10_takeFrom 141 = .ok (.putfield 39, 3) := by decide +kernel
theorem dX10_takeFrom_144 : decode cX10_takeFrom 144 = .ok (.aload_n 0, 1) := by decide +kernel
theorem dX10_takeFrom_145 : decode cX10_takeFrom 145 = .ok (.aload_n 1, 1) := by decide +kernel
theorem dX10_takeFrom_146 : decode cX10_takeFrom 146 = .ok (.getfield 61, 3) := by decide +kernel
theorem dX10_takeFrom_149 : decode cX10_takeFrom 149 = .ok (.putfield 61, 3) := by decide +kernel
theorem dX10_takeFrom_152 : decode cX10_takeFrom 152 = .ok (.aload_n 0, 1) := by decide +kernel
theorem dX10_takeFrom_153 : decode cX10_takeFrom 153 = .ok (.aload_n 1, 1) := by decide +kernel
theorem dX10_takeFrom_154 : decode cX10_takeFrom 154 = .ok (.getfield 64, 3) := by decide +kernel
theorem dX10_takeFrom_157 : decode cX10_takeFrom 157 = .ok (.putfield 64, 3) := by decide +kernel
theorem dX10_takeFrom_160 : decode cX10_takeFrom 160 = .ok (.aload_n 0, 1) := by decide +kernel
theorem dX10_takeFrom_161 : decode cX10_takeFrom 161 = .ok (.invokevirtual 67, 3) := by decide +kernel
theorem dX10_takeFrom_164 : decode cX10_takeFrom 164 = .ok (.return_, 1) := by decide +kernel
theorem dX10_thingRow_0 : decode cX10_thingRow 0 = .ok (.iload_n 1, 1) := by decide +kernel
theorem dX10_thingRow_1 : decode cX10_thingRow 1 = .ok (.ifCond .ne 8, 3) := by decide +kernel
theorem dX10_thingRow_4 : decode cX10_thingRow 4 = .ok (.aload_n 0, 1) := by decide +kernel
theorem dX10_thingRow_5 : decode cX10_thingRow 5 = .ok (.getfield 9, 3) := by decide +kernel
theorem dX10_thingRow_8 : decode cX10_thingRow 8 = .ok (.areturn, 1) := by decide +kernel
theorem dX10_thingRow_9 : decode cX10_thingRow 9 = .ok (.iload_n 1, 1) := by decide +kernel
theorem dX10_thingRow_10 : decode cX10_thingRow 10 = .ok (.iconst 1, 1) := by decide +kernel
theorem dX10_thingRow_11 : decode cX10_thingRow 11 = .ok (.if_icmp .ne 10, 3) := by decide +kernel
theorem dX10_thingRow_14 : decode cX10_thingRow 14 = .ok (.aload_n 0, 1) := by decide +kernel
theorem dX10_thingRow_15 : decode cX10_thingRow 15 = .ok (.getfield 15, 3) := by decide +kernel
theorem dX10_thingRow_18 : decode cX10_thingRow 18 = .ok (.goto 7, 3) := by decide +kernel
theorem dX10_thingRow_21 : decode cX10_thingRow 21 = .ok (.aload_n 0, 1) := by decide +kernel
theorem dX10_thingRow_22 : decode cX10_thingRow 22 = .ok (.getfield 18, 3) := by decide +kernel
theorem dX10_thingRow_25 : decode cX10_thingRow 25 = .ok (.areturn, 1) := by decide +kernel
theorem dX10_hasHouse_0 : decode cX10_hasHouse 0 = .ok (.iload_n 1, 1) := by decide +kernel
theorem dX10_hasHouse_1 : decode cX10_hasHouse 1 = .ok (.ifCond .lt 15, 3) := by decide +kernel
theorem dX10_hasHouse_4 : decode cX10_hasHouse 4 = .ok (.iload_n 1, 1) := by decide +kernel
theorem dX10_hasHouse_5 : decode cX10_hasHouse 5 = .ok (.aload_n 0, 1) := by decide +kernel
theorem dX10_hasHouse_6 : decode cX10_hasHouse 6 = .ok (.getfield 55, 3) := by decide +kernel
theorem dX10_hasHouse_9 : decode cX10_hasHouse 9 = .ok (.if_icmp .ge 7, 3) := by decide +kernel
theorem dX10_hasHouse_12 : decode cX10_hasHouse 12 = .ok (.iconst 1, 1) := by decide +kernel
theorem dX10_hasHouse_13 : decode cX10_hasHouse 13 = .ok (.goto 4, 3) := by decide +kernel
theorem dX10_hasHouse_16 : decode cX10_hasHouse 16 = .ok (.iconst 0, 1) := by decide +kernel
theorem dX10_hasHouse_17 : decode cX10_hasHouse 17 = .ok (.ireturn, 1) := by decide +kernel
theorem dX10_add_0 : decode cX10_add 0 = .ok (.aload_n 0, 1) := by decide +kernel
theorem dX10_add_1 : decode cX10_add 1 = .ok (.getfield 55, 3) := by decide +kernel
theorem dX10_add_4 : decode cX10_add 4 = .ok (.bipush 12, 2) := by decide +kernel
theorem dX10_add_6 : decode cX10_add 6 = .ok (.if_icmp .lt 6, 3) := by decide +kernel
theorem dX10_add_9 : decode cX10_add 9 = .ok (.bipush (-5), 2) := by decide +kernel
theorem dX10_add_11 : decode cX10_add 11 = .ok (.ireturn, 1) := by decide +kernel
theorem dX10_add_12 : decode cX10_add 12 = .ok (.aload_n 0, 1) := by decide +kernel
theorem dX10_add_13 : decode cX10_add 13 = .ok (.getfield 21, 3) := by decide +kernel
theorem dX10_add_16 : decode cX10_add 16 = .ok (.aload_n 0, 1) := by decide +kernel
theorem dX10_add_17 : decode cX10_add 17 = .ok (.getfield 55, 3) := by decide +kernel
theorem dX10_add_20 : decode cX10_add 20 = .ok (.iload_n 1, 1) := by decide +kernel
theorem dX10_add_21 : decode cX10_add 21 = .ok (.iastore, 1) := by decide +kernel
theorem dX10_add_22 : decode cX10_add 22 = .ok (.aload_n 0, 1) := by decide +kernel
theorem dX10_add_23 : decode cX10_add 23 = .ok (.getfield 24, 3) := by decide +kernel
theorem dX10_add_26 : decode cX10_add 26 = .ok (.aload_n 0, 1) := by decide +kernel
theorem dX10_add_27 : decode cX10_add 27 = .ok (.getfield 55, 3) := by decide +kernel
theorem dX10_add_30 : decode cX10_add 30 = .ok (.iload_n 2, 1) := by decide +kernel
theorem dX10_add_31 : decode cX10_add 31 = .ok (.iastore, 1) := by decide +kernel
theorem dX10_add_32 : decode cX10_add 32 = .ok (.aload_n 0, 1) := by decide +kernel
theorem dX10_add_33 : decode cX10_add 33 = .ok (.getfield 27, 3) := by decide +kernel
theorem dX10_add_36 : decode cX10_add 36 = .ok (.aload_n 0, 1) := by decide +kernel
theorem dX10_add_37 : decode cX10_add 37 = .ok (.getfield 55, 3) := by decide +kernel
theorem dX10_add_40 : decode cX10_add 40 = .ok (.iload_n 3, 1) := by decide +kernel
theorem dX10_add_41 : decode cX10_add 41 = .ok (.iastore, 1) := by decide +kernel
theorem dX10_add_42 : decode cX10_add 42 = .ok (.aload_n 0, 1) := by decide +kernel
theorem dX10_add_43 : decode cX10_add 43 = .ok (.getfield 30, 3) := by decide +kernel
theorem dX10_add_46 : decode cX10_add 46 = .ok (.aload_n 0, 1) := by decide +kernel
theorem dX10_add_47 : decode cX10_add 47 = .ok (.getfield 55, 3) := by decide +kernel
theorem dX10_add_50 : decode cX10_add 50 = .ok (.iload_n 3, 1) := by decide +kernel
theorem dX10_add_51 : decode cX10_add 51 = .ok (.invokestatic 70, 3) := by decide +kernel
theorem dX10_add_54 : decode cX10_add 54 = .ok (.iastore, 1) := by decide +kernel
theorem dX10_add_55 : decode cX10_add 55 = .ok (.aload_n 0, 1) := by decide +kernel
theorem dX10_add_56 : decode cX10_add 56 = .ok (.dup, 1) := by decide +kernel
theorem dX10_add_57 : decode cX10_add 57 = .ok (.getfield 46, 3) := by decide +kernel
theorem dX10_add_60 : decode cX10_add 60 = .ok (.iconst 1, 1) := by decide +kernel
theorem dX10_add_61 : decode cX10_add 61 = .ok (.iadd, 1) := by decide +kernel
theorem dX10_add_62 : decode cX10_add 62 = .ok (.putfield 46, 3) := by decide +kernel
theorem dX10_add_65 : decode cX10_add 65 = .ok (.aload_n 0, 1) := by decide +kernel
theorem dX10_add_66 : decode cX10_add 66 = .ok (.dup, 1) := by decide +kernel
theorem dX10_add_67 : decode cX10_add 67 = .ok (.getfield 55, 3) := by decide +kernel
theorem dX10_add_70 : decode cX10_add 70 = .ok (.iconst 1, 1) := by decide +kernel
theorem dX10_add_71 : decode cX10_add 71 = .ok (.iadd, 1) := by decide +kernel
theorem dX10_add_72 : decode cX10_add 72 = .ok (.putfield 55, 3) := by decide +kernel
theorem dX10_add_75 : decode cX10_add 75 = .ok (.aload_n 0, 1) := by decide +kernel
theorem dX10_add_76 : decode cX10_add 76 = .ok (.getfield 55, 3) := by decide +kernel
theorem dX10_add_79 : decode cX10_add 79 = .ok (.iconst 1, 1) := by decide +kernel
theorem dX10_add_80 : decode cX10_add 80 = .ok (.isub, 1) := by decide +kernel
theorem dX10_add_81 : decode cX10_add 81 = .ok (.ireturn, 1) := by decide +kernel
theorem dX10_keepHouses_0 : decode cX10_keepHouses 0 = .ok (.aload_n 0, 1) := by decide +kernel
theorem dX10_keepHouses_1 : decode cX10_keepHouses 1 = .ok (.iconst 0, 1) := by decide +kernel
theorem dX10_keepHouses_2 : decode cX10_keepHouses 2 = .ok (.aload_n 0, 1) := by decide +kernel
theorem dX10_keepHouses_3 : decode cX10_keepHouses 3 = .ok (.getfield 55, 3) := by decide +kernel
theorem dX10_keepHouses_6 : decode cX10_keepHouses 6 = .ok (.iload_n 1, 1) := by decide +kernel
theorem dX10_keepHouses_7 : decode cX10_keepHouses 7 = .ok (.invokestatic 76, 3) := by decide +kernel
theorem dX10_keepHouses_10 : decode cX10_keepHouses 10 = .ok (.invokestatic 82, 3) := by decide +kernel
theorem dX10_keepHouses_13 : decode cX10_keepHouses 13 = .ok (.putfield 55, 3) := by decide +kernel
theorem dX10_keepHouses_16 : decode cX10_keepHouses 16 = .ok (.aload_n 0, 1) := by decide +kernel
theorem dX10_keepHouses_17 : decode cX10_keepHouses 17 = .ok (.dup, 1) := by decide +kernel
theorem dX10_keepHouses_18 : decode cX10_keepHouses 18 = .ok (.getfield 46, 3) := by decide +kernel
theorem dX10_keepHouses_21 : decode cX10_keepHouses 21 = .ok (.iconst 1, 1) := by decide +kernel
theorem dX10_keepHouses_22 : decode cX10_keepHouses 22 = .ok (.iadd, 1) := by decide +kernel
theorem dX10_keepHouses_23 : decode cX10_keepHouses 23 = .ok (.putfield 46, 3) := by decide +kernel
theorem dX10_keepHouses_26 : decode cX10_keepHouses 26 = .ok (.return_, 1) := by decide +kernel
theorem dX10_turnTo_0 : decode cX10_turnTo 0 = .ok (.aload_n 0, 1) := by decide +kernel
theorem dX10_turnTo_1 : decode cX10_turnTo 1 = .ok (.iload_n 1, 1) := by decide +kernel
theorem dX10_turnTo_2 : decode cX10_turnTo 2 = .ok (.putfield 61, 3) := by decide +kernel
theorem dX10_turnTo_5 : decode cX10_turnTo 5 = .ok (.aload_n 0, 1) := by decide +kernel
theorem dX10_turnTo_6 : decode cX10_turnTo 6 = .ok (.dup, 1) := by decide +kernel
theorem dX10_turnTo_7 : decode cX10_turnTo 7 = .ok (.getfield 46, 3) := by decide +kernel
theorem dX10_turnTo_10 : decode cX10_turnTo 10 = .ok (.iconst 1, 1) := by decide +kernel
theorem dX10_turnTo_11 : decode cX10_turnTo 11 = .ok (.iadd, 1) := by decide +kernel
theorem dX10_turnTo_12 : decode cX10_turnTo 12 = .ok (.putfield 46, 3) := by decide +kernel
theorem dX10_turnTo_15 : decode cX10_turnTo 15 = .ok (.return_, 1) := by decide +kernel
theorem dX10_addLaw_0 : decode cX10_addLaw 0 = .ok (.aload_n 0, 1) := by decide +kernel
theorem dX10_addLaw_1 : decode cX10_addLaw 1 = .ok (.getfield 58, 3) := by decide +kernel
theorem dX10_addLaw_4 : decode cX10_addLaw 4 = .ok (.bipush 6, 2) := by decide +kernel
theorem dX10_addLaw_6 : decode cX10_addLaw 6 = .ok (.if_icmp .lt 6, 3) := by decide +kernel
theorem dX10_addLaw_9 : decode cX10_addLaw 9 = .ok (.bipush (-5), 2) := by decide +kernel
theorem dX10_addLaw_11 : decode cX10_addLaw 11 = .ok (.ireturn, 1) := by decide +kernel
theorem dX10_addLaw_12 : decode cX10_addLaw 12 = .ok (.aload_n 0, 1) := by decide +kernel
theorem dX10_addLaw_13 : decode cX10_addLaw 13 = .ok (.getfield 35, 3) := by decide +kernel
theorem dX10_addLaw_16 : decode cX10_addLaw 16 = .ok (.aload_n 0, 1) := by decide +kernel
theorem dX10_addLaw_17 : decode cX10_addLaw 17 = .ok (.getfield 58, 3) := by decide +kernel
theorem dX10_addLaw_20 : decode cX10_addLaw 20 = .ok (.aload_n 1, 1) := by decide +kernel
theorem dX10_addLaw_21 : decode cX10_addLaw 21 = .ok (.aastore, 1) := by decide +kernel
theorem dX10_addLaw_22 : decode cX10_addLaw 22 = .ok (.aload_n 0, 1) := by decide +kernel
theorem dX10_addLaw_23 : decode cX10_addLaw 23 = .ok (.dup, 1) := by decide +kernel
theorem dX10_addLaw_24 : decode cX10_addLaw 24 = .ok (.getfield 58, 3) := by decide +kernel
theorem dX10_addLaw_27 : decode cX10_addLaw 27 = .ok (.iconst 1, 1) := by decide +kernel
theorem dX10_addLaw_28 : decode cX10_addLaw 28 = .ok (.iadd, 1) := by decide +kernel
theorem dX10_addLaw_29 : decode cX10_addLaw 29 = .ok (.putfield 58, 3) := by decide +kernel
theorem dX10_addLaw_32 : decode cX10_addLaw 32 = .ok (.aload_n 0, 1) := by decide +kernel
theorem dX10_addLaw_33 : decode cX10_addLaw 33 = .ok (.getfield 58, 3) := by decide +kernel
theorem dX10_addLaw_36 : decode cX10_addLaw 36 = .ok (.iconst 1, 1) := by decide +kernel
theorem dX10_addLaw_37 : decode cX10_addLaw 37 = .ok (.isub, 1) := by decide +kernel
theorem dX10_addLaw_38 : decode cX10_addLaw 38 = .ok (.ireturn, 1) := by decide +kernel
theorem dX10_textInForce_0 : decode cX10_textInForce 0 = .ok (.aload_n 0, 1) := by decide +kernel
theorem dX10_textInForce_1 : decode cX10_textInForce 1 = .ok (.getfield 39, 3) := by decide +kernel
theorem dX10_textInForce_4 : decode cX10_textInForce 4 = .ok (.ifCond .lt 26, 3) := by decide +kernel
theorem dX10_textInForce_7 : decode cX10_textInForce 7 = .ok (.aload_n 0, 1) := by decide +kernel
theorem dX10_textInForce_8 : decode cX10_textInForce 8 = .ok (.getfield 39, 3) := by decide +kernel
theorem dX10_textInForce_11 : decode cX10_textInForce 11 = .ok (.aload_n 0, 1) := by decide +kernel
theorem dX10_textInForce_12 : decode cX10_textInForce 12 = .ok (.getfield 58, 3) := by decide +kernel
theorem dX10_textInForce_15 : decode cX10_textInForce 15 = .ok (.if_icmp .ge 15, 3) := by decide +kernel
theorem dX10_textInForce_18 : decode cX10_textInForce 18 = .ok (.aload_n 0, 1) := by decide +kernel
theorem dX10_textInForce_19 : decode cX10_textInForce 19 = .ok (.getfield 35, 3) := by decide +kernel
theorem dX10_textInForce_22 : decode cX10_textInForce 22 = .ok (.aload_n 0, 1) := by decide +kernel
theorem dX10_textInForce_23 : decode cX10_textInForce 23 = .ok (.getfield 39, 3) := by decide +kernel
theorem dX10_textInForce_26 : decode cX10_textInForce 26 = .ok (.aaload, 1) := by decide +kernel
theorem dX10_textInForce_27 : decode cX10_textInForce 27 = .ok (.goto 4, 3) := by decide +kernel
theorem dX10_textInForce_30 : decode cX10_textInForce 30 = .ok (.aconst_null, 1) := by decide +kernel
theorem dX10_textInForce_31 : decode cX10_textInForce 31 = .ok (.areturn, 1) := by decide +kernel
theorem dX10_holds_0 : decode cX10_holds 0 = .ok (.aload_n 0, 1) := by decide +kernel
theorem dX10_holds_1 : decode cX10_holds 1 = .ok (.getfield 30, 3) := by decide +kernel
theorem dX10_holds_4 : decode cX10_holds 4 = .ok (.iload_n 1, 1) := by decide +kernel
theorem dX10_holds_5 : decode cX10_holds 5 = .ok (.iaload, 1) := by decide +kernel
theorem dX10_holds_6 : decode cX10_holds 6 = .ok (.iconst 3, 1) := by decide +kernel
theorem dX10_holds_7 : decode cX10_holds 7 = .ok (.iload_n 2, 1) := by decide +kernel
theorem dX10_holds_8 : decode cX10_holds 8 = .ok (.imul, 1) := by decide +kernel
theorem dX10_holds_9 : decode cX10_holds 9 = .ok (.ishr, 1) := by decide +kernel
theorem dX10_holds_10 : decode cX10_holds 10 = .ok (.bipush 7, 2) := by decide +kernel
theorem dX10_holds_12 : decode cX10_holds 12 = .ok (.iand, 1) := by decide +kernel
theorem dX10_holds_13 : decode cX10_holds 13 = .ok (.ireturn, 1) := by decide +kernel
theorem dX10_daughtersOf_0 : decode cX10_daughtersOf 0 = .ok (.iconst 0, 1) := by decide +kernel
theorem dX10_daughtersOf_1 : decode cX10_daughtersOf 1 = .ok (.istore_n 2, 1) := by decide +kernel
theorem dX10_daughtersOf_2 : decode cX10_daughtersOf 2 = .ok (.iconst 0, 1) := by decide +kernel
theorem dX10_daughtersOf_3 : decode cX10_daughtersOf 3 = .ok (.istore_n 3, 1) := by decide +kernel
theorem dX10_daughtersOf_4 : decode cX10_daughtersOf 4 = .ok (.iload_n 3, 1) := by decide +kernel
theorem dX10_daughtersOf_5 : decode cX10_daughtersOf 5 = .ok (.aload_n 0, 1) := by decide +kernel
theorem dX10_daughtersOf_6 : decode cX10_daughtersOf 6 = .ok (.getfield 55, 3) := by decide +kernel
theorem dX10_daughtersOf_9 : decode cX10_daughtersOf 9 = .ok (.if_icmp .ge 27, 3) := by decide +kernel
theorem dX10_daughtersOf_12 : decode cX10_daughtersOf 12 = .ok (.iload_n 2, 1) := by decide +kernel
theorem dX10_daughtersOf_13 : decode cX10_daughtersOf 13 = .ok (.aload_n 0, 1) := by decide +kernel
theorem dX10_daughtersOf_14 : decode cX10_daughtersOf 14 = .ok (.getfield 21, 3) := by decide +kernel
theorem dX10_daughtersOf_17 : decode cX10_daughtersOf 17 = .ok (.iload_n 3, 1) := by decide +kernel
theorem dX10_daughtersOf_18 : decode cX10_daughtersOf 18 = .ok (.iaload, 1) := by decide +kernel
theorem dX10_daughtersOf_19 : decode cX10_daughtersOf 19 = .ok (.iload_n 1, 1) := by decide +kernel
theorem dX10_daughtersOf_20 : decode cX10_daughtersOf 20 = .ok (.if_icmp .ne 7, 3) := by decide +kernel
theorem dX10_daughtersOf_23 : decode cX10_daughtersOf 23 = .ok (.iconst 1, 1) := by decide +kernel
theorem dX10_daughtersOf_24 : decode cX10_daughtersOf 24 = .ok (.goto 4, 3) := by decide +kernel
theorem dX10_daughtersOf_27 : decode cX10_daughtersOf 27 = .ok (.iconst 0, 1) := by decide +kernel
theorem dX10_daughtersOf_28 : decode cX10_daughtersOf 28 = .ok (.iadd, 1) := by decide +kernel
theorem dX10_daughtersOf_29 : decode cX10_daughtersOf 29 = .ok (.istore_n 2, 1) := by decide +kernel
theorem dX10_daughtersOf_30 : decode cX10_daughtersOf 30 = .ok (.iinc 3 1, 3) := by decide +kernel
theorem dX10_daughtersOf_33 : decode cX10_daughtersOf 33 = .ok (.goto (-29), 3) := by decide +kernel
theorem dX10_daughtersOf_36 : decode cX10_daughtersOf 36 = .ok (.iload_n 2, 1) := by decide +kernel
theorem dX10_daughtersOf_37 : decode cX10_daughtersOf 37 = .ok (.ireturn, 1) := by decide +kernel
theorem dX10_changedBack_0 : decode cX10_changedBack 0 = .ok (.aload_n 0, 1) := by decide +kernel
theorem dX10_changedBack_1 : decode cX10_changedBack 1 = .ok (.getfield 21, 3) := by decide +kernel
theorem dX10_changedBack_4 : decode cX10_changedBack 4 = .ok (.iload_n 1, 1) := by decide +kernel
theorem dX10_changedBack_5 : decode cX10_changedBack 5 = .ok (.iaload, 1) := by decide +kernel
theorem dX10_changedBack_6 : decode cX10_changedBack 6 = .ok (.istore_n 2, 1) := by decide +kernel
theorem dX10_changedBack_7 : decode cX10_changedBack 7 = .ok (.iconst 1, 1) := by decide +kernel
theorem dX10_changedBack_8 : decode cX10_changedBack 8 = .ok (.istore_n 3, 1) := by decide +kernel
theorem dX10_changedBack_9 : decode cX10_changedBack 9 = .ok (.iload_n 3, 1) := by decide +kernel
theorem dX10_changedBack_10 : decode cX10_changedBack 10 = .ok (.bipush 12, 2) := by decide +kernel
theorem dX10_changedBack_12 : decode cX10_changedBack 12 = .ok (.if_icmp .ge 41, 3) := by decide +kernel
theorem dX10_changedBack_15 : decode cX10_changedBack 15 = .ok (.aload_n 0, 1) := by decide +kernel
theorem dX10_changedBack_16 : decode cX10_changedBack 16 = .ok (.iload_n 2, 1) := by decide +kernel
theorem dX10_changedBack_17 : decode cX10_changedBack 17 = .ok (.invokevirtual 85, 3) := by decide +kernel
theorem dX10_changedBack_20 : decode cX10_changedBack 20 = .ok (.ifCond .eq 33, 3) := by decide +kernel
theorem dX10_changedBack_23 : decode cX10_changedBack 23 = .ok (.aload_n 0, 1) := by decide +kernel
theorem dX10_changedBack_24 : decode cX10_changedBack 24 = .ok (.getfield 27, 3) := by decide +kernel
theorem dX10_changedBack_27 : decode cX10_changedBack 27 = .ok (.iload_n 2, 1) := by decide +kernel
theorem dX10_changedBack_28 : decode cX10_changedBack 28 = .ok (.iaload, 1) := by decide +kernel
theorem dX10_changedBack_29 : decode cX10_changedBack 29 = .ok (.aload_n 0, 1) := by decide +kernel
theorem dX10_changedBack_30 : decode cX10_changedBack 30 = .ok (.getfield 27, 3) := by decide +kernel
theorem dX10_changedBack_33 : decode cX10_changedBack 33 = .ok (.iload_n 1, 1) := by decide +kernel
theorem dX10_changedBack_34 : decode cX10_changedBack 34 = .ok (.iaload, 1) := by decide +kernel
theorem dX10_changedBack_35 : decode cX10_changedBack 35 = .ok (.if_icmp .ne 5, 3) := by decide +kernel
theorem dX10_changedBack_38 : decode cX10_changedBack 38 = .ok (.iload_n 3, 1) := by decide +kernel
theorem dX10_changedBack_39 : decode cX10_changedBack 39 = .ok (.ireturn, 1) := by decide +kernel
theorem dX10_changedBack_40 : decode cX10_changedBack 40 = .ok (.aload_n 0, 1) := by decide +kernel
theorem dX10_changedBack_41 : decode cX10_changedBack 41 = .ok (.getfield 21, 3) := by decide +kernel
theorem dX10_changedBack_44 : decode cX10_changedBack 44 = .ok (.iload_n 2, 1) := by decide +kernel
theorem dX10_changedBack_45 : decode cX10_changedBack 45 = .ok (.iaload, 1) := by decide +kernel
theorem dX10_changedBack_46 : decode cX10_changedBack 46 = .ok (.istore_n 2, 1) := by decide +kernel
theorem dX10_changedBack_47 : decode cX10_changedBack 47 = .ok (.iinc 3 1, 3) := by decide +kernel
theorem dX10_changedBack_50 : decode cX10_changedBack 50 = .ok (.goto (-41), 3) := by decide +kernel
theorem dX10_changedBack_53 : decode cX10_changedBack 53 = .ok (.iconst (-1), 1) := by decide +kernel
theorem dX10_changedBack_54 : decode cX10_changedBack 54 = .ok (.ireturn, 1) := by decide +kernel
theorem dX10_yearBehind_0 : decode cX10_yearBehind 0 = .ok (.iconst (-1), 1) := by decide +kernel
theorem dX10_yearBehind_1 : decode cX10_yearBehind 1 = .ok (.istore_n 2, 1) := by decide +kernel
theorem dX10_yearBehind_2 : decode cX10_yearBehind 2 = .ok (.iconst 0, 1) := by decide +kernel
theorem dX10_yearBehind_3 : decode cX10_yearBehind 3 = .ok (.istore_n 3, 1) := by decide +kernel
theorem dX10_yearBehind_4 : decode cX10_yearBehind 4 = .ok (.iload_n 3, 1) := by decide +kernel
theorem dX10_yearBehind_5 : decode cX10_yearBehind 5 = .ok (.aload_n 0, 1) := by decide +kernel
theorem dX10_yearBehind_6 : decode cX10_yearBehind 6 = .ok (.getfield 55, 3) := by decide +kernel
theorem dX10_yearBehind_9 : decode cX10_yearBehind 9 = .ok (.if_icmp .ge 41, 3) := by decide +kernel
theorem dX10_yearBehind_12 : decode cX10_yearBehind 12 = .ok (.aload_n 0, 1) := by decide +kernel
theorem dX10_yearBehind_13 : decode cX10_yearBehind 13 = .ok (.getfield 24, 3) := by decide +kernel
theorem dX10_yearBehind_16 : decode cX10_yearBehind 16 = .ok (.iload_n 3, 1) := by decide +kernel
theorem dX10_yearBehind_17 : decode cX10_yearBehind 17 = .ok (.iaload, 1) := by decide +kernel
theorem dX10_yearBehind_18 : decode cX10_yearBehind 18 = .ok (.iload_n 1, 1) := by decide +kernel
theorem dX10_yearBehind_19 : decode cX10_yearBehind 19 = .ok (.if_icmp .le 25, 3) := by decide +kernel
theorem dX10_yearBehind_22 : decode cX10_yearBehind 22 = .ok (.iload_n 2, 1) := by decide +kernel
theorem dX10_yearBehind_23 : decode cX10_yearBehind 23 = .ok (.iconst (-1), 1) := by decide +kernel
theorem dX10_yearBehind_24 : decode cX10_yearBehind 24 = .ok (.if_icmp .eq 13, 3) := by decide +kernel
theorem dX10_yearBehind_27 : decode cX10_yearBehind 27 = .ok (.aload_n 0, 1) := by decide +kernel
theorem dX10_yearBehind_28 : decode cX10_yearBehind 28 = .ok (.getfield 24, 3) := by decide +kernel
theorem dX10_yearBehind_31 : decode cX10_yearBehind 31 = .ok (.iload_n 3, 1) := by decide +kernel
theorem dX10_yearBehind_32 : decode cX10_yearBehind 32 = .ok (.iaload, 1) := by decide +kernel
theorem dX10_yearBehind_33 : decode cX10_yearBehind 33 = .ok (.iload_n 2, 1) := by decide +kernel
theorem dX10_yearBehind_34 : decode cX10_yearBehind 34 = .ok (.if_icmp .ge 10, 3) := by decide +kernel
theorem dX10_yearBehind_37 : decode cX10_yearBehind 37 = .ok (.aload_n 0, 1) := by decide +kernel
theorem dX10_yearBehind_38 : decode cX10_yearBehind 38 = .ok (.getfield 24, 3) := by decide +kernel
theorem dX10_yearBehind_41 : decode cX10_yearBehind 41 = .ok (.iload_n 3, 1) := by decide +kernel
theorem dX10_yearBehind_42 : decode cX10_yearBehind 42 = .ok (.iaload, 1) := by decide +kernel
theorem dX10_yearBehind_43 : decode cX10_yearBehind 43 = .ok (.istore_n 2, 1) := by decide +kernel
theorem dX10_yearBehind_44 : decode cX10_yearBehind 44 = .ok (.iinc 3 1, 3) := by decide +kernel
theorem dX10_yearBehind_47 : decode cX10_yearBehind 47 = .ok (.goto (-43), 3) := by decide +kernel
theorem dX10_yearBehind_50 : decode cX10_yearBehind 50 = .ok (.iload_n 2, 1) := by decide +kernel
theorem dX10_yearBehind_51 : decode cX10_yearBehind 51 = .ok (.ireturn, 1) := by decide +kernel
theorem dX10_isPoor_0 : decode cX10_isPoor 0 = .ok (.iconst 0, 1) := by decide +kernel
theorem dX10_isPoor_1 : decode cX10_isPoor 1 = .ok (.istore_n 3, 1) := by decide +kernel
theorem dX10_isPoor_2 : decode cX10_isPoor 2 = .ok (.iconst 0, 1) := by decide +kernel
theorem dX10_isPoor_3 : decode cX10_isPoor 3 = .ok (.istore 4, 2) := by decide +kernel
theorem dX10_isPoor_5 : decode cX10_isPoor 5 = .ok (.iload 4, 2) := by decide +kernel
theorem dX10_isPoor_7 : decode cX10_isPoor 7 = .ok (.aload_n 0, 1) := by decide +kernel
theorem dX10_isPoor_8 : decode cX10_isPoor 8 = .ok (.getfield 55, 3) := by decide +kernel
theorem dX10_isPoor_11 : decode cX10_isPoor 11 = .ok (.if_icmp .ge 34, 3) := by decide +kernel
theorem dX10_isPoor_14 : decode cX10_isPoor 14 = .ok (.aload_n 0, 1) := by decide +kernel
theorem dX10_isPoor_15 : decode cX10_isPoor 15 = .ok (.iload 4, 2) := by decide +kernel
theorem dX10_isPoor_17 : decode cX10_isPoor 17 = .ok (.iload_n 2, 1) := by decide +kernel
theorem dX10_isPoor_18 : decode cX10_isPoor 18 = .ok (.invokevirtual 89, 3) := by decide +kernel
theorem dX10_isPoor_21 : decode cX10_isPoor 21 = .ok (.ifCond .le 18, 3) := by decide +kernel
theorem dX10_isPoor_24 : decode cX10_isPoor 24 = .ok (.aload_n 0, 1) := by decide +kernel
theorem dX10_isPoor_25 : decode cX10_isPoor 25 = .ok (.getfield 24, 3) := by decide +kernel
theorem dX10_isPoor_28 : decode cX10_isPoor 28 = .ok (.iload 4, 2) := by decide +kernel
theorem dX10_isPoor_30 : decode cX10_isPoor 30 = .ok (.iaload, 1) := by decide +kernel
theorem dX10_isPoor_31 : decode cX10_isPoor 31 = .ok (.iload_n 1, 1) := by decide +kernel
theorem dX10_isPoor_32 : decode cX10_isPoor 32 = .ok (.if_icmp .lt 5, 3) := by decide +kernel
theorem dX10_isPoor_35 : decode cX10_isPoor 35 = .ok (.iconst 0, 1) := by decide +kernel
theorem dX10_isPoor_36 : decode cX10_isPoor 36 = .ok (.ireturn, 1) := by decide +kernel
theorem dX10_isPoor_37 : decode cX10_isPoor 37 = .ok (.iconst 1, 1) := by decide +kernel
theorem dX10_isPoor_38 : decode cX10_isPoor 38 = .ok (.istore_n 3, 1) := by decide +kernel
theorem dX10_isPoor_39 : decode cX10_isPoor 39 = .ok (.iinc 4 1, 3) := by decide +kernel
theorem dX10_isPoor_42 : decode cX10_isPoor 42 = .ok (.goto (-37), 3) := by decide +kernel
theorem dX10_isPoor_45 : decode cX10_isPoor 45 = .ok (.iload_n 3, 1) := by decide +kernel
theorem dX10_isPoor_46 : decode cX10_isPoor 46 = .ok (.ireturn, 1) := by decide +kernel
theorem dX10_toldOf_0 : decode cX10_toldOf 0 = .ok (.iload_n 1, 1) := by decide +kernel
theorem dX10_toldOf_1 : decode cX10_toldOf 1 = .ok (.aload_n 0, 1) := by decide +kernel
theorem dX10_toldOf_2 : decode cX10_toldOf 2 = .ok (.getfield 55, 3) := by decide +kernel
theorem dX10_toldOf_5 : decode cX10_toldOf 5 = .ok (.ishr, 1) := by decide +kernel
theorem dX10_toldOf_6 : decode cX10_toldOf 6 = .ok (.ifCond .ne 7, 3) := by decide +kernel
theorem dX10_toldOf_9 : decode cX10_toldOf 9 = .ok (.iload_n 1, 1) := by decide +kernel
theorem dX10_toldOf_10 : decode cX10_toldOf 10 = .ok (.goto 4, 3) := by decide +kernel
theorem dX10_toldOf_13 : decode cX10_toldOf 13 = .ok (.iconst 0, 1) := by decide +kernel
theorem dX10_toldOf_14 : decode cX10_toldOf 14 = .ok (.ireturn, 1) := by decide +kernel
theorem dX10_groupsBy_0 : decode cX10_groupsBy 0 = .ok (.iconst 0, 1) := by decide +kernel
theorem dX10_groupsBy_1 : decode cX10_groupsBy 1 = .ok (.istore_n 3, 1) := by decide +kernel
theorem dX10_groupsBy_2 : decode cX10_groupsBy 2 = .ok (.iconst 0, 1) := by decide +kernel
theorem dX10_groupsBy_3 : decode cX10_groupsBy 3 = .ok (.istore 4, 2) := by decide +kernel
theorem dX10_groupsBy_5 : decode cX10_groupsBy 5 = .ok (.iload 4, 2) := by decide +kernel
theorem dX10_groupsBy_7 : decode cX10_groupsBy 7 = .ok (.bipush 6, 2) := by decide +kernel
theorem dX10_groupsBy_9 : decode cX10_groupsBy 9 = .ok (.if_icmp .ge 26, 3) := by decide +kernel
theorem dX10_groupsBy_12 : decode cX10_groupsBy 12 = .ok (.iload_n 3, 1) := by decide +kernel
theorem dX10_groupsBy_13 : decode cX10_groupsBy 13 = .ok (.iload_n 2, 1) := by decide +kernel
theorem dX10_groupsBy_14 : decode cX10_groupsBy 14 = .ok (.iload 4, 2) := by decide +kernel
theorem dX10_groupsBy_16 : decode cX10_groupsBy 16 = .ok (.ishr, 1) := by decide +kernel
theorem dX10_groupsBy_17 : decode cX10_groupsBy 17 = .ok (.iconst 1, 1) := by decide +kernel
theorem dX10_groupsBy_18 : decode cX10_groupsBy 18 = .ok (.iand, 1) := by decide +kernel
theorem dX10_groupsBy_19 : decode cX10_groupsBy 19 = .ok (.bipush 7, 2) := by decide +kernel
theorem dX10_groupsBy_21 : decode cX10_groupsBy 21 = .ok (.imul, 1) := by decide +kernel
theorem dX10_groupsBy_22 : decode cX10_groupsBy 22 = .ok (.iconst 3, 1) := by decide +kernel
theorem dX10_groupsBy_23 : decode cX10_groupsBy 23 = .ok (.iload 4, 2) := by decide +kernel
theorem dX10_groupsBy_25 : decode cX10_groupsBy 25 = .ok (.imul, 1) := by decide +kernel
theorem dX10_groupsBy_26 : decode cX10_groupsBy 26 = .ok (.ishl, 1) := by decide +kernel
theorem dX10_groupsBy_27 : decode cX10_groupsBy 27 = .ok (.ior, 1) := by decide +kernel
theorem dX10_groupsBy_28 : decode cX10_groupsBy 28 = .ok (.istore_n 3, 1) := by decide +kernel
theorem dX10_groupsBy_29 : decode cX10_groupsBy 29 = .ok (.iinc 4 1, 3) := by decide +kernel
theorem dX10_groupsBy_32 : decode cX10_groupsBy 32 = .ok (.goto (-27), 3) := by decide +kernel
theorem dX10_groupsBy_35 : decode cX10_groupsBy 35 = .ok (.iconst 0, 1) := by decide +kernel
theorem dX10_groupsBy_36 : decode cX10_groupsBy 36 = .ok (.istore 4, 2) := by decide +kernel
theorem dX10_groupsBy_38 : decode cX10_groupsBy 38 = .ok (.iconst 0, 1) := by decide +kernel
theorem dX10_groupsBy_39 : decode cX10_groupsBy 39 = .ok (.istore 5, 2) := by decide +kernel
theorem dX10_groupsBy_41 : decode cX10_groupsBy 41 = .ok (.iload 5, 2) := by decide +kernel
theorem dX10_groupsBy_43 : decode cX10_groupsBy 43 = .ok (.aload_n 0, 1) := by decide +kernel
theorem dX10_groupsBy_44 : decode cX10_groupsBy 44 = .ok (.getfield 55, 3) := by decide +kernel
theorem dX10_groupsBy_47 : decode cX10_groupsBy 47 = .ok (.if_icmp .ge 40, 3) := by decide +kernel
theorem dX10_groupsBy_50 : decode cX10_groupsBy 50 = .ok (.iload 4, 2) := by decide +kernel
theorem dX10_groupsBy_52 : decode cX10_groupsBy 52 = .ok (.iload_n 1, 1) := by decide +kernel
theorem dX10_groupsBy_53 : decode cX10_groupsBy 53 = .ok (.iload 5, 2) := by decide +kernel
theorem dX10_groupsBy_55 : decode cX10_groupsBy 55 = .ok (.ishr, 1) := by decide +kernel
theorem dX10_groupsBy_56 : decode cX10_groupsBy 56 = .ok (.iconst 1, 1) := by decide +kernel
theorem dX10_groupsBy_57 : decode cX10_groupsBy 57 = .ok (.iand, 1) := by decide +kernel
theorem dX10_groupsBy_58 : decode cX10_groupsBy 58 = .ok (.iconst 1, 1) := by decide +kernel
theorem dX10_groupsBy_59 : decode cX10_groupsBy 59 = .ok (.if_icmp .ne 18, 3) := by decide +kernel
theorem dX10_groupsBy_62 : decode cX10_groupsBy 62 = .ok (.aload_n 0, 1) := by decide +kernel
theorem dX10_groupsBy_63 : decode cX10_groupsBy 63 = .ok (.iload_n 1, 1) := by decide +kernel
theorem dX10_groupsBy_64 : decode cX10_groupsBy 64 = .ok (.iload 5, 2) := by decide +kernel
theorem dX10_groupsBy_66 : decode cX10_groupsBy 66 = .ok (.iload_n 3, 1) := by decide +kernel
theorem dX10_groupsBy_67 : decode cX10_groupsBy 67 = .ok (.invokevirtual 92, 3) := by decide +kernel
theorem dX10_groupsBy_70 : decode cX10_groupsBy 70 = .ok (.ifCond .ne 7, 3) := by decide +kernel
theorem dX10_groupsBy_73 : decode cX10_groupsBy 73 = .ok (.iconst 1, 1) := by decide +kernel
theorem dX10_groupsBy_74 : decode cX10_groupsBy 74 = .ok (.goto 4, 3) := by decide +kernel
theorem dX10_groupsBy_77 : decode cX10_groupsBy 77 = .ok (.iconst 0, 1) := by decide +kernel
theorem dX10_groupsBy_78 : decode cX10_groupsBy 78 = .ok (.iadd, 1) := by decide +kernel
theorem dX10_groupsBy_79 : decode cX10_groupsBy 79 = .ok (.istore 4, 2) := by decide +kernel
theorem dX10_groupsBy_81 : decode cX10_groupsBy 81 = .ok (.iinc 5 1, 3) := by decide +kernel
theorem dX10_groupsBy_84 : decode cX10_groupsBy 84 = .ok (.goto (-43), 3) := by decide +kernel
theorem dX10_groupsBy_87 : decode cX10_groupsBy 87 = .ok (.iload 4, 2) := by decide +kernel
theorem dX10_groupsBy_89 : decode cX10_groupsBy 89 = .ok (.ireturn, 1) := by decide +kernel
theorem dX10_isLikeEarlier_0 : decode cX10_isLikeEarlier 0 = .ok (.iconst 0, 1) := by decide +kernel
theorem dX10_isLikeEarlier_1 : decode cX10_isLikeEarlier 1 = .ok (.istore 4, 2) := by decide +kernel
theorem dX10_isLikeEarlier_3 : decode cX10_isLikeEarlier 3 = .ok (.iload 4, 2) := by decide +kernel
theorem dX10_isLikeEarlier_5 : decode cX10_isLikeEarlier 5 = .ok (.iload_n 2, 1) := by decide +kernel
theorem dX10_isLikeEarlier_6 : decode cX10_isLikeEarlier 6 = .ok (.if_icmp .ge 40, 3) := by decide +kernel
theorem dX10_isLikeEarlier_9 : decode cX10_isLikeEarlier 9 = .ok (.iload_n 1, 1) := by decide +kernel
theorem dX10_isLikeEarlier_10 : decode cX10_isLikeEarlier 10 = .ok (.iload 4, 2) := by decide +kernel
theorem dX10_isLikeEarlier_12 : decode cX10_isLikeEarlier 12 = .ok (.ishr, 1) := by decide +kernel
theorem dX10_isLikeEarlier_13 : decode cX10_isLikeEarlier 13 = .ok (.iconst 1, 1) := by decide +kernel
theorem dX10_isLikeEarlier_14 : decode cX10_isLikeEarlier 14 = .ok (.iand, 1) := by decide +kernel
theorem dX10_isLikeEarlier_15 : decode cX10_isLikeEarlier 15 = .ok (.iconst 1, 1) := by decide +kernel
theorem dX10_isLikeEarlier_16 : decode cX10_isLikeEarlier 16 = .ok (.if_icmp .ne 24, 3) := by decide +kernel
theorem dX10_isLikeEarlier_19 : decode cX10_isLikeEarlier 19 = .ok (.aload_n 0, 1) := by decide +kernel
theorem dX10_isLikeEarlier_20 : decode cX10_isLikeEarlier 20 = .ok (.getfield 30, 3) := by decide +kernel
theorem dX10_isLikeEarlier_23 : decode cX10_isLikeEarlier 23 = .ok (.iload 4, 2) := by decide +kernel
theorem dX10_isLikeEarlier_25 : decode cX10_isLikeEarlier 25 = .ok (.iaload, 1) := by decide +kernel
theorem dX10_isLikeEarlier_26 : decode cX10_isLikeEarlier 26 = .ok (.aload_n 0, 1) := by decide +kernel
theorem dX10_isLikeEarlier_27 : decode cX10_isLikeEarlier 27 = .ok (.getfield 30, 3) := by decide +kernel
theorem dX10_isLikeEarlier_30 : decode cX10_isLikeEarlier 30 = .ok (.iload_n 2, 1) := by decide +kernel
theorem dX10_isLikeEarlier_31 : decode cX10_isLikeEarlier 31 = .ok (.iaload, 1) := by decide +kernel
theorem dX10_isLikeEarlier_32 : decode cX10_isLikeEarlier 32 = .ok (.ixor, 1) := by decide +kernel
theorem dX10_isLikeEarlier_33 : decode cX10_isLikeEarlier 33 = .ok (.iload_n 3, 1) := by decide +kernel
theorem dX10_isLikeEarlier_34 : decode cX10_isLikeEarlier 34 = .ok (.iand, 1) := by decide +kernel
theorem dX10_isLikeEarlier_35 : decode cX10_isLikeEarlier 35 = .ok (.ifCond .ne 5, 3) := by decide +kernel
theorem dX10_isLikeEarlier_38 : decode cX10_isLikeEarlier 38 = .ok (.iconst 1, 1) := by decide +kernel
theorem dX10_isLikeEarlier_39 : decode cX10_isLikeEarlier 39 = .ok (.ireturn, 1) := by decide +kernel
theorem dX10_isLikeEarlier_40 : decode cX10_isLikeEarlier 40 = .ok (.iinc 4 1, 3) := by decide +kernel
theorem dX10_isLikeEarlier_43 : decode cX10_isLikeEarlier 43 = .ok (.goto (-40), 3) := by decide +kernel
theorem dX10_isLikeEarlier_46 : decode cX10_isLikeEarlier 46 = .ok (.iconst 0, 1) := by decide +kernel
theorem dX10_isLikeEarlier_47 : decode cX10_isLikeEarlier 47 = .ok (.ireturn, 1) := by decide +kernel
theorem dX10_gotInstead_0 : decode cX10_gotInstead 0 = .ok (.iload_n 1, 1) := by decide +kernel
theorem dX10_gotInstead_1 : decode cX10_gotInstead 1 = .ok (.istore_n 2, 1) := by decide +kernel
theorem dX10_gotInstead_2 : decode cX10_gotInstead 2 = .ok (.iconst 0, 1) := by decide +kernel
theorem dX10_gotInstead_3 : decode cX10_gotInstead 3 = .ok (.istore_n 3, 1) := by decide +kernel
theorem dX10_gotInstead_4 : decode cX10_gotInstead 4 = .ok (.iload_n 3, 1) := by decide +kernel
theorem dX10_gotInstead_5 : decode cX10_gotInstead 5 = .ok (.bipush 6, 2) := by decide +kernel
theorem dX10_gotInstead_7 : decode cX10_gotInstead 7 = .ok (.if_icmp .ge 35, 3) := by decide +kernel
theorem dX10_gotInstead_10 : decode cX10_gotInstead 10 = .ok (.iload_n 2, 1) := by decide +kernel
theorem dX10_gotInstead_11 : decode cX10_gotInstead 11 = .ok (.invokestatic 96, 3) := by decide +kernel
theorem dX10_gotInstead_14 : decode cX10_gotInstead 14 = .ok (.ifCond .eq 28, 3) := by decide +kernel
theorem dX10_gotInstead_17 : decode cX10_gotInstead 17 = .ok (.aload_n 0, 1) := by decide +kernel
theorem dX10_gotInstead_18 : decode cX10_gotInstead 18 = .ok (.getfield 15, 3) := by decide +kernel
theorem dX10_gotInstead_21 : decode cX10_gotInstead 21 = .ok (.iload_n 2, 1) := by decide +kernel
theorem dX10_gotInstead_22 : decode cX10_gotInstead 22 = .ok (.iaload, 1) := by decide +kernel
theorem dX10_gotInstead_23 : decode cX10_gotInstead 23 = .ok (.iconst 1, 1) := by decide +kernel
theorem dX10_gotInstead_24 : decode cX10_gotInstead 24 = .ok (.if_icmp .ne 5, 3) := by decide +kernel
theorem dX10_gotInstead_27 : decode cX10_gotInstead 27 = .ok (.iload_n 2, 1) := by decide +kernel
theorem dX10_gotInstead_28 : decode cX10_gotInstead 28 = .ok (.ireturn, 1) := by decide +kernel
theorem dX10_gotInstead_29 : decode cX10_gotInstead 29 = .ok (.aload_n 0, 1) := by decide +kernel
theorem dX10_gotInstead_30 : decode cX10_gotInstead 30 = .ok (.getfield 18, 3) := by decide +kernel
theorem dX10_gotInstead_33 : decode cX10_gotInstead 33 = .ok (.iload_n 2, 1) := by decide +kernel
theorem dX10_gotInstead_34 : decode cX10_gotInstead 34 = .ok (.iaload, 1) := by decide +kernel
theorem dX10_gotInstead_35 : decode cX10_gotInstead 35 = .ok (.istore_n 2, 1) := by decide +kernel
theorem dX10_gotInstead_36 : decode cX10_gotInstead 36 = .ok (.iinc 3 1, 3) := by decide +kernel
theorem dX10_gotInstead_39 : decode cX10_gotInstead 39 = .ok (.goto (-35), 3) := by decide +kernel
theorem dX10_gotInstead_42 : decode cX10_gotInstead 42 = .ok (.iconst (-1), 1) := by decide +kernel
theorem dX10_gotInstead_43 : decode cX10_gotInstead 43 = .ok (.ireturn, 1) := by decide +kernel
theorem dX11_init_0 : decode cX11_init 0 = .ok (.aload_n 0, 1) := by decide +kernel
theorem dX11_init_1 : decode cX11_init 1 = .ok (.invokespecial 1, 3) := by decide +kernel
theorem dX11_init_4 : decode cX11_init 4 = .ok (.aload_n 0, 1) := by decide +kernel
theorem dX11_init_5 : decode cX11_init 5 = .ok (.new 7, 3) := by decide +kernel
theorem dX11_init_8 : decode cX11_init 8 = .ok (.dup, 1) := by decide +kernel
theorem dX11_init_9 : decode cX11_init 9 = .ok (.invokespecial 9, 3) := by decide +kernel
theorem dX11_init_12 : decode cX11_init 12 = .ok (.putfield 10, 3) := by decide +kernel
theorem dX11_init_15 : decode cX11_init 15 = .ok (.aload_n 0, 1) := by decide +kernel
theorem dX11_init_16 : decode cX11_init 16 = .ok (.iconst 2, 1) := by decide +kernel
theorem dX11_init_17 : decode cX11_init 17 = .ok (.anewarray 7, 3) := by decide +kernel
theorem dX11_init_20 : decode cX11_init 20 = .ok (.putfield 16, 3) := by decide +kernel
theorem dX11_init_23 : decode cX11_init 23 = .ok (.aload_n 0, 1) := by decide +kernel
theorem dX11_init_24 : decode cX11_init 24 = .ok (.new 20, 3) := by decide +kernel
theorem dX11_init_27 : decode cX11_init 27 = .ok (.dup, 1) := by decide +kernel
theorem dX11_init_28 : decode cX11_init 28 = .ok (.invokespecial 22, 3) := by decide +kernel
theorem dX11_init_31 : decode cX11_init 31 = .ok (.putfield 23, 3) := by decide +kernel
theorem dX11_init_34 : decode cX11_init 34 = .ok (.aload_n 0, 1) := by decide +kernel
theorem dX11_init_35 : decode cX11_init 35 = .ok (.new 27, 3) := by decide +kernel
theorem dX11_init_38 : decode cX11_init 38 = .ok (.dup, 1) := by decide +kernel
theorem dX11_init_39 : decode cX11_init 39 = .ok (.invokespecial 29, 3) := by decide +kernel
theorem dX11_init_42 : decode cX11_init 42 = .ok (.putfield 30, 3) := by decide +kernel
theorem dX11_init_45 : decode cX11_init 45 = .ok (.aload_n 0, 1) := by decide +kernel
theorem dX11_init_46 : decode cX11_init 46 = .ok (.new 34, 3) := by decide +kernel
theorem dX11_init_49 : decode cX11_init 49 = .ok (.dup, 1) := by decide +kernel
theorem dX11_init_50 : decode cX11_init 50 = .ok (.aload_n 0, 1) := by decide +kernel
theorem dX11_init_51 : decode cX11_init 51 = .ok (.getfield 10, 3) := by decide +kernel
theorem dX11_init_54 : decode cX11_init 54 = .ok (.invokespecial 36, 3) := by decide +kernel
theorem dX11_init_57 : decode cX11_init 57 = .ok (.putfield 39, 3) := by decide +kernel
theorem dX11_init_60 : decode cX11_init 60 = .ok (.aload_n 0, 1) := by decide +kernel
theorem dX11_init_61 : decode cX11_init 61 = .ok (.new 43, 3) := by decide +kernel
theorem dX11_init_64 : decode cX11_init 64 = .ok (.dup, 1) := by decide +kernel
theorem dX11_init_65 : decode cX11_init 65 = .ok (.aload_n 0, 1) := by decide +kernel
theorem dX11_init_66 : decode cX11_init 66 = .ok (.getfield 10, 3) := by decide +kernel
theorem dX11_init_69 : decode cX11_init 69 = .ok (.aload_n 0, 1) := by decide +kernel
theorem dX11_init_70 : decode cX11_init 70 = .ok (.getfield 39, 3) := by decide +kernel
theorem dX11_init_73 : decode cX11_init 73 = .ok (.invokespecial 45, 3) := by decide +kernel
theorem dX11_init_76 : decode cX11_init 76 = .ok (.putfield 48, 3) := by decide +kernel
theorem dX11_init_79 : decode cX11_init 79 = .ok (.aload_n 0, 1) := by decide +kernel
theorem dX11_init_80 : decode cX11_init 80 = .ok (.new 52, 3) := by decide +kernel
theorem dX11_init_83 : decode cX11_init 83 = .ok (.dup, 1) := by decide +kernel
theorem dX11_init_84 : decode cX11_init 84 = .ok (.aload_n 0, 1) := by decide +kernel
theorem dX11_init_85 : decode cX11_init 85 = .ok (.getfield 10, 3) := by decide +kernel
theorem dX11_init_88 : decode cX11_init 88 = .ok (.aload_n 0, 1) := by decide +kernel
theorem dX11_init_89 : decode cX11_init 89 = .ok (.getfield 39, 3) := by decide +kernel
theorem dX11_init_92 : decode cX11_init 92 = .ok (.invokespecial 54, 3) := by decide +kernel
theorem dX11_init_95 : decode cX11_init 95 = .ok (.putfield 55, 3) := by decide +kernel
theorem dX11_init_98 : decode cX11_init 98 = .ok (.aload_n 0, 1) := by decide +kernel
theorem dX11_init_99 : decode cX11_init 99 = .ok (.new 59, 3) := by decide +kernel
theorem dX11_init_102 : decode cX11_init 102 = .ok (.dup, 1) := by decide +kernel
theorem dX11_init_103 : decode cX11_init 103 = .ok (.invokespecial 61, 3) := by decide +kernel
theorem dX11_init_106 : decode cX11_init 106 = .ok (.putfield 62, 3) := by decide +kernel
theorem dX11_init_109 : decode cX11_init 109 = .ok (.aload_n 0, 1) := by decide +kernel
theorem dX11_init_110 : decode cX11_init 110 = .ok (.new 66, 3) := by decide +kernel
theorem dX11_init_113 : decode cX11_init 113 = .ok (.dup, 1) := by decide +kernel
theorem dX11_init_114 : decode cX11_init 114 = .ok (.aload_n 0, 1) := by decide +kernel
theorem dX11_init_115 : decode cX11_init 115 = .ok (.getfield 10, 3) := by decide +kernel
theorem dX11_init_118 : decode cX11_init 118 = .ok (.aload_n 0, 1) := by decide +kernel
theorem dX11_init_119 : decode cX11_init 119 = .ok (.getfield 39, 3) := by decide +kernel
theorem dX11_init_122 : decode cX11_init 122 = .ok (.aload_n 0, 1) := by decide +kernel
theorem dX11_init_123 : decode cX11_init 123 = .ok (.getfield 48, 3) := by decide +kernel
theorem dX11_init_126 : decode cX11_init 126 = .ok (.invokespecial 68, 3) := by decide +kernel
theorem dX11_init_129 : decode cX11_init 129 = .ok (.putfield 71, 3) := by decide +kernel
theorem dX11_init_132 : decode cX11_init 132 = .ok (.aload_n 0, 1) := by decide +kernel
theorem dX11_init_133 : decode cX11_init 133 = .ok (.iconst 5, 1) := by decide +kernel
theorem dX11_init_134 : decode cX11_init 134 = .ok (.newarray .int, 2) := by decide +kernel
theorem dX11_init_136 : decode cX11_init 136 = .ok (.putfield 75, 3) := by decide +kernel
theorem dX11_init_139 : decode cX11_init 139 = .ok (.aload_n 0, 1) := by decide +kernel
theorem dX11_init_140 : decode cX11_init 140 = .ok (.bipush 61, 2) := by decide +kernel
theorem dX11_init_142 : decode cX11_init 142 = .ok (.newarray .int, 2) := by decide +kernel
theorem dX11_init_144 : decode cX11_init 144 = .ok (.putfield 79, 3) := by decide +kernel
theorem dX11_init_147 : decode cX11_init 147 = .ok (.aload_n 0, 1) := by decide +kernel
theorem dX11_init_148 : decode cX11_init 148 = .ok (.iconst (-1), 1) := by decide +kernel
theorem dX11_init_149 : decode cX11_init 149 = .ok (.putfield 82, 3) := by decide +kernel
theorem dX11_init_152 : decode cX11_init 152 = .ok (.aload_n 0, 1) := by decide +kernel
theorem dX11_init_153 : decode cX11_init 153 = .ok (.iconst (-1), 1) := by decide +kernel
theorem dX11_init_154 : decode cX11_init 154 = .ok (.putfield 86, 3) := by decide +kernel
theorem dX11_init_157 : decode cX11_init 157 = .ok (.return_, 1) := by decide +kernel
theorem dX11_put_0 : decode cX11_put 0 = .ok (.iload_n 1, 1) := by decide +kernel
theorem dX11_put_1 : decode cX11_put 1 = .ok (.invokestatic 89, 3) := by decide +kernel
theorem dX11_put_4 : decode cX11_put 4 = .ok (.ifCond .eq 12, 3) := by decide +kernel
theorem dX11_put_7 : decode cX11_put 7 = .ok (.iload_n 1, 1) := by decide +kernel
theorem dX11_put_8 : decode cX11_put 8 = .ok (.iload_n 2, 1) := by decide +kernel
theorem dX11_put_9 : decode cX11_put 9 = .ok (.iload_n 3, 1) := by decide +kernel
theorem dX11_put_10 : decode cX11_put 10 = .ok (.invokestatic 93, 3) := by decide +kernel
theorem dX11_put_13 : decode cX11_put 13 = .ok (.ifCond .ne 9, 3) := by decide +kernel
theorem dX11_put_16 : decode cX11_put 16 = .ok (.aload_n 0, 1) := by decide +kernel
theorem dX11_put_17 : decode cX11_put 17 = .ok (.iconst (-1), 1) := by decide +kernel
theorem dX11_put_18 : decode cX11_put 18 = .ok (.invokevirtual 97, 3) := by decide +kernel
theorem dX11_put_21 : decode cX11_put 21 = .ok (.ireturn, 1) := by decide +kernel
theorem dX11_put_22 : decode cX11_put 22 = .ok (.aload_n 0, 1) := by decide +kernel
theorem dX11_put_23 : decode cX11_put 23 = .ok (.getfield 10, 3) := by decide +kernel
theorem dX11_put_26 : decode cX11_put 26 = .ok (.iload_n 2, 1) := by decide +kernel
theorem dX11_put_27 : decode cX11_put 27 = .ok (.invokevirtual 101, 3) := by decide +kernel
theorem dX11_put_30 : decode cX11_put 30 = .ok (.astore 4, 2) := by decide +kernel
theorem dX11_put_32 : decode cX11_put 32 = .ok (.aload 4, 2) := by decide +kernel
theorem dX11_put_34 : decode cX11_put 34 = .ok (.iload_n 1, 1) := by decide +kernel
theorem dX11_put_35 : decode cX11_put 35 = .ok (.iaload, 1) := by decide +kernel
theorem dX11_put_36 : decode cX11_put 36 = .ok (.istore 5, 2) := by decide +kernel
theorem dX11_put_38 : decode cX11_put 38 = .ok (.aload 4, 2) := by decide +kernel
theorem dX11_put_40 : decode cX11_put 40 = .ok (.iload_n 1, 1) := by decide +kernel
theorem dX11_put_41 : decode cX11_put 41 = .ok (.iload_n 3, 1) := by decide +kernel
theorem dX11_put_42 : decode cX11_put 42 = .ok (.iastore, 1) := by decide +kernel
theorem dX11_put_43 : decode cX11_put 43 = .ok (.aload_n 0, 1) := by decide +kernel
theorem dX11_put_44 : decode cX11_put 44 = .ok (.getfield 10, 3) := by decide +kernel
theorem dX11_put_47 : decode cX11_put 47 = .ok (.invokevirtual 105, 3) := by decide +kernel
theorem dX11_put_50 : decode cX11_put 50 = .ok (.aload_n 0, 1) := by decide +kernel
theorem dX11_put_51 : decode cX11_put 51 = .ok (.iload 5, 2) := by decide +kernel
theorem dX11_put_53 : decode cX11_put 53 = .ok (.invokevirtual 108, 3) := by decide +kernel
theorem dX11_put_56 : decode cX11_put 56 = .ok (.ireturn, 1) := by decide +kernel
theorem dX11_of_0 : decode cX11_of 0 = .ok (.iload_n 1, 1) := by decide +kernel
theorem dX11_of_1 : decode cX11_of 1 = .ok (.invokestatic 89, 3) := by decide +kernel
theorem dX11_of_4 : decode cX11_of 4 = .ok (.ifCond .eq 12, 3) := by decide +kernel
theorem dX11_of_7 : decode cX11_of 7 = .ok (.iload_n 2, 1) := by decide +kernel
theorem dX11_of_8 : decode cX11_of 8 = .ok (.ifCond .lt 8, 3) := by decide +kernel
theorem dX11_of_11 : decode cX11_of 11 = .ok (.iload_n 2, 1) := by decide +kernel
theorem dX11_of_12 : decode cX11_of 12 = .ok (.iconst 2, 1) := by decide +kernel
theorem dX11_of_13 : decode cX11_of 13 = .ok (.if_icmp .le 5, 3) := by decide +kernel
theorem dX11_of_16 : decode cX11_of 16 = .ok (.iconst (-1), 1) := by decide +kernel
theorem dX11_of_17 : decode cX11_of 17 = .ok (.ireturn, 1) := by decide +kernel
theorem dX11_of_18 : decode cX11_of 18 = .ok (.aload_n 0, 1) := by decide +kernel
theorem dX11_of_19 : decode cX11_of 19 = .ok (.getfield 10, 3) := by decide +kernel
theorem dX11_of_22 : decode cX11_of 22 = .ok (.iload_n 2, 1) := by decide +kernel
theorem dX11_of_23 : decode cX11_of 23 = .ok (.invokevirtual 101, 3) := by decide +kernel
theorem dX11_of_26 : decode cX11_of 26 = .ok (.iload_n 1, 1) := by decide +kernel
theorem dX11_of_27 : decode cX11_of 27 = .ok (.iaload, 1) := by decide +kernel
theorem dX11_of_28 : decode cX11_of 28 = .ok (.ireturn, 1) := by decide +kernel
theorem dX11_house_0 : decode cX11_house 0 = .ok (.iload_n 3, 1) := by decide +kernel
theorem dX11_house_1 : decode cX11_house 1 = .ok (.invokestatic 111, 3) := by decide +kernel
theorem dX11_house_4 : decode cX11_house 4 = .ok (.istore 4, 2) := by decide +kernel
theorem dX11_house_6 : decode cX11_house 6 = .ok (.iload_n 2, 1) := by decide +kernel
theorem dX11_house_7 : decode cX11_house 7 = .ok (.invokestatic 116, 3) := by decide +kernel
theorem dX11_house_10 : decode cX11_house 10 = .ok (.ifCond .eq 9, 3) := by decide +kernel
theorem dX11_house_13 : decode cX11_house 13 = .ok (.iload 4, 2) := by decide +kernel
theorem dX11_house_15 : decode cX11_house 15 = .ok (.iconst (-1), 1) := by decide +kernel
theorem dX11_house_16 : decode cX11_house 16 = .ok (.if_icmp .ne 9, 3) := by decide +kernel
theorem dX11_house_19 : decode cX11_house 19 = .ok (.aload_n 0, 1) := by decide +kernel
theorem dX11_house_20 : decode cX11_house 20 = .ok (.iconst (-1), 1) := by decide +kernel
theorem dX11_house_21 : decode cX11_house 21 = .ok (.invokevirtual 97, 3) := by decide +kernel
theorem dX11_house_24 : decode cX11_house 24 = .ok (.ireturn, 1) := by decide +kernel
theorem dX11_house_25 : decode cX11_house 25 = .ok (.iload_n 1, 1) := by decide +kernel
theorem dX11_house_26 : decode cX11_house 26 = .ok (.iconst (-1), 1) := by decide +kernel
theorem dX11_house_27 : decode cX11_house 27 = .ok (.if_icmp .eq 21, 3) := by decide +kernel
theorem dX11_house_30 : decode cX11_house 30 = .ok (.aload_n 0, 1) := by decide +kernel
theorem dX11_house_31 : decode cX11_house 31 = .ok (.getfield 10, 3) := by decide +kernel
theorem dX11_house_34 : decode cX11_house 34 = .ok (.iload_n 1, 1) := by decide +kernel
theorem dX11_house_35 : decode cX11_house 35 = .ok (.invokevirtual 119, 3) := by decide +kernel
theorem dX11_house_38 : decode cX11_house 38 = .ok (.ifCond .ne 10, 3) := by decide +kernel
theorem dX11_house_41 : decode cX11_house 41 = .ok (.aload_n 0, 1) := by decide +kernel
theorem dX11_house_42 : decode cX11_house 42 = .ok (.bipush (-2), 2) := by decide +kernel
theorem dX11_house_44 : decode cX11_house 44 = .ok (.invokevirtual 97, 3) := by decide +kernel
theorem dX11_house_47 : decode cX11_house 47 = .ok (.ireturn, 1) := by decide +kernel
theorem dX11_house_48 : decode cX11_house 48 = .ok (.iload_n 1, 1) := by decide +kernel
theorem dX11_house_49 : decode cX11_house 49 = .ok (.iconst (-1), 1) := by decide +kernel
theorem dX11_house_50 : decode cX11_house 50 = .ok (.if_icmp .eq 23, 3) := by decide +kernel
theorem dX11_house_53 : decode cX11_house 53 = .ok (.iload_n 2, 1) := by decide +kernel
theorem dX11_house_54 : decode cX11_house 54 = .ok (.aload_n 0, 1) := by decide +kernel
theorem dX11_house_55 : decode cX11_house 55 = .ok (.getfield 10, 3) := by decide +kernel
theorem dX11_house_58 : decode cX11_house 58 = .ok (.getfield 122, 3) := by decide +kernel
theorem dX11_house_61 : decode cX11_house 61 = .ok (.iload_n 1, 1) := by decide +kernel
theorem dX11_house_62 : decode cX11_house 62 = .ok (.iaload, 1) := by decide +kernel
theorem dX11_house_63 : decode cX11_house 63 = .ok (.if_icmp .ge 10, 3) := by decide +kernel
theorem dX11_house_66 : decode cX11_house 66 = .ok (.aload_n 0, 1) := by decide +kernel
theorem dX11_house_67 : decode cX11_house 67 = .ok (.bipush (-3), 2) := by decide +kernel
theorem dX11_house_69 : decode cX11_house 69 = .ok (.invokevirtual 97, 3) := by decide +kernel
theorem dX11_house_72 : decode cX11_house 72 = .ok (.ireturn, 1) := by decide +kernel
theorem dX11_house_73 : decode cX11_house 73 = .ok (.aload_n 0, 1) := by decide +kernel
theorem dX11_house_74 : decode cX11_house 74 = .ok (.aload_n 0, 1) := by decide +kernel
theorem dX11_house_75 : decode cX11_house 75 = .ok (.getfield 10, 3) := by decide +kernel
theorem dX11_house_78 : decode cX11_house 78 = .ok (.iload_n 1, 1) := by decide +kernel
theorem dX11_house_79 : decode cX11_house 79 = .ok (.iload_n 2, 1) := by decide +kernel
theorem dX11_house_80 : decode cX11_house 80 = .ok (.iload 4, 2) := by decide +kernel
theorem dX11_house_82 : decode cX11_house 82 = .ok (.invokevirtual 125, 3) := by decide +kernel
theorem dX11_house_85 : decode cX11_house 85 = .ok (.invokevirtual 129, 3) := by decide +kernel
theorem dX11_house_88 : decode cX11_house 88 = .ok (.ireturn, 1) := by decide +kernel
theorem dX11_born_0 : decode cX11_born 0 = .ok (.aload_n 0, 1) := by decide +kernel
theorem dX11_born_1 : decode cX11_born 1 = .ok (.aload_n 0, 1) := by decide +kernel
theorem dX11_born_2 : decode cX11_born 2 = .ok (.iload_n 1, 1) := by decide +kernel
theorem dX11_born_3 : decode cX11_born 3 = .ok (.iload_n 2, 1) := by decide +kernel
theorem dX11_born_4 : decode cX11_born 4 = .ok (.iload_n 3, 1) := by decide +kernel
theorem dX11_born_5 : decode cX11_born 5 = .ok (.iload 4, 2) := by decide +kernel
theorem dX11_born_7 : decode cX11_born 7 = .ok (.invokevirtual 132, 3) := by decide +kernel
theorem dX11_born_10 : decode cX11_born 10 = .ok (.invokevirtual 129, 3) := by decide +kernel
theorem dX11_born_13 : decode cX11_born 13 = .ok (.ireturn, 1) := by decide +kernel
theorem dX11_undo_0 : decode cX11_undo 0 = .ok (.aload_n 0, 1) := by decide +kernel
theorem dX11_undo_1 : decode cX11_undo 1 = .ok (.getfield 10, 3) := by decide +kernel
theorem dX11_undo_4 : decode cX11_undo 4 = .ok (.getfield 136, 3) := by decide +kernel
theorem dX11_undo_7 : decode cX11_undo 7 = .ok (.ifCond .ne 10, 3) := by decide +kernel
theorem dX11_undo_10 : decode cX11_undo 10 = .ok (.aload_n 0, 1) := by decide +kernel
theorem dX11_undo_11 : decode cX11_undo 11 = .ok (.bipush (-3), 2) := by decide +kernel
theorem dX11_undo_13 : decode cX11_undo 13 = .ok (.invokevirtual 97, 3) := by decide +kernel
theorem dX11_undo_16 : decode cX11_undo 16 = .ok (.ireturn, 1) := by decide +kernel
theorem dX11_undo_17 : decode cX11_undo 17 = .ok (.aload_n 0, 1) := by decide +kernel
theorem dX11_undo_18 : decode cX11_undo 18 = .ok (.getfield 10, 3) := by decide +kernel
theorem dX11_undo_21 : decode cX11_undo 21 = .ok (.aload_n 0, 1) := by decide +kernel
theorem dX11_undo_22 : decode cX11_undo 22 = .ok (.getfield 10, 3) := by decide +kernel
theorem dX11_undo_25 : decode cX11_undo 25 = .ok (.getfield 136, 3) := by decide +kernel
theorem dX11_undo_28 : decode cX11_undo 28 = .ok (.iconst 1, 1) := by decide +kernel
theorem dX11_undo_29 : decode cX11_undo 29 = .ok (.isub, 1) := by decide +kernel
theorem dX11_undo_30 : decode cX11_undo 30 = .ok (.invokevirtual 139, 3) := by decide +kernel
theorem dX11_undo_33 : decode cX11_undo 33 = .ok (.aload_n 0, 1) := by decide +kernel
theorem dX11_undo_34 : decode cX11_undo 34 = .ok (.aload_n 0, 1) := by decide +kernel
theorem dX11_undo_35 : decode cX11_undo 35 = .ok (.getfield 10, 3) := by decide +kernel
theorem dX11_undo_38 : decode cX11_undo 38 = .ok (.getfield 143, 3) := by decide +kernel
theorem dX11_undo_41 : decode cX11_undo 41 = .ok (.aload_n 0, 1) := by decide +kernel
theorem dX11_undo_42 : decode cX11_undo 42 = .ok (.getfield 10, 3) := by decide +kernel
theorem dX11_undo_45 : decode cX11_undo 45 = .ok (.getfield 136, 3) := by decide +kernel
theorem dX11_undo_48 : decode cX11_undo 48 = .ok (.iaload, 1) := by decide +kernel
theorem dX11_undo_49 : decode cX11_undo 49 = .ok (.invokestatic 146, 3) := by decide +kernel
theorem dX11_undo_52 : decode cX11_undo 52 = .ok (.invokevirtual 108, 3) := by decide +kernel
theorem dX11_undo_55 : decode cX11_undo 55 = .ok (.ireturn, 1) := by decide +kernel
theorem dX11_at_0 : decode cX11_at 0 = .ok (.aload_n 0, 1) := by decide +kernel
theorem dX11_at_1 : decode cX11_at 1 = .ok (.getfield 10, 3) := by decide +kernel
theorem dX11_at_4 : decode cX11_at 4 = .ok (.iload_n 1, 1) := by decide +kernel
theorem dX11_at_5 : decode cX11_at 5 = .ok (.invokevirtual 119, 3) := by decide +kernel
theorem dX11_at_8 : decode cX11_at 8 = .ok (.ifCond .ne 5, 3) := by decide +kernel
theorem dX11_at_11 : decode cX11_at 11 = .ok (.iconst (-1), 1) := by decide +kernel
theorem dX11_at_12 : decode cX11_at 12 = .ok (.ireturn, 1) := by decide +kernel
theorem dX11_at_13 : decode cX11_at 13 = .ok (.aload_n 0, 1) := by decide +kernel
theorem dX11_at_14 : decode cX11_at 14 = .ok (.getfield 10, 3) := by decide +kernel
theorem dX11_at_17 : decode cX11_at 17 = .ok (.getfield 149, 3) := by decide +kernel
theorem dX11_at_20 : decode cX11_at 20 = .ok (.iload_n 1, 1) := by decide +kernel
theorem dX11_at_21 : decode cX11_at 21 = .ok (.iaload, 1) := by decide +kernel
theorem dX11_at_22 : decode cX11_at 22 = .ok (.istore_n 3, 1) := by decide +kernel
theorem dX11_at_23 : decode cX11_at 23 = .ok (.iload_n 2, 1) := by decide +kernel
theorem dX11_at_24 : decode cX11_at 24 = .ok (.tableswitch 133 0 5 #[40, 42, 52, 65, 74, 124], 40) := by decide +kernel
theorem dX11_at_64 : decode cX11_at 64 = .ok (.iload_n 3, 1) := by decide +kernel
theorem dX11_at_65 : decode cX11_at 65 = .ok (.ireturn, 1) := by decide +kernel
theorem dX11_at_66 : decode cX11_at 66 = .ok (.aload_n 0, 1) := by decide +kernel
theorem dX11_at_67 : decode cX11_at 67 = .ok (.getfield 10, 3) := by decide +kernel
theorem dX11_at_70 : decode cX11_at 70 = .ok (.getfield 122, 3) := by decide +kernel
theorem dX11_at_73 : decode cX11_at 73 = .ok (.iload_n 1, 1) := by decide +kernel
theorem dX11_at_74 : decode cX11_at 74 = .ok (.iaload, 1) := by decide +kernel
theorem dX11_at_75 : decode cX11_at 75 = .ok (.ireturn, 1) := by decide +kernel
theorem dX11_at_76 : decode cX11_at 76 = .ok (.aload_n 0, 1) := by decide +kernel
theorem dX11_at_77 : decode cX11_at 77 = .ok (.getfield 10, 3) := by decide +kernel
theorem dX11_at_80 : decode cX11_at 80 = .ok (.getfield 143, 3) := by decide +kernel
theorem dX11_at_83 : decode cX11_at 83 = .ok (.iload_n 1, 1) := by decide +kernel
theorem dX11_at_84 : decode cX11_at 84 = .ok (.iaload, 1) := by decide +kernel
theorem dX11_at_85 : decode cX11_at 85 = .ok (.invokestatic 146, 3) := by decide +kernel
theorem dX11_at_88 : decode cX11_at 88 = .ok (.ireturn, 1) := by decide +kernel
theorem dX11_at_89 : decode cX11_at 89 = .ok (.aload_n 0, 1) := by decide +kernel
theorem dX11_at_90 : decode cX11_at 90 = .ok (.getfield 10, 3) := by decide +kernel
theorem dX11_at_93 : decode cX11_at 93 = .ok (.iload_n 1, 1) := by decide +kernel
theorem dX11_at_94 : decode cX11_at 94 = .ok (.invokevirtual 152, 3) := by decide +kernel
theorem dX11_at_97 : decode cX11_at 97 = .ok (.ireturn, 1) := by decide +kernel
theorem dX11_at_98 : decode cX11_at 98 = .ok (.aload_n 0, 1) := by decide +kernel
theorem dX11_at_99 : decode cX11_at 99 = .ok (.getfield 10, 3) := by decide +kernel
theorem dX11_at_102 : decode cX11_at 102 = .ok (.iload_n 3, 1) := by decide +kernel
theorem dX11_at_103 : decode cX11_at 103 = .ok (.invokevirtual 119, 3) := by decide +kernel
theorem dX11_at_106 : decode cX11_at 106 = .ok (.ifCond .ne 7, 3) := by decide +kernel
theorem dX11_at_109 : decode cX11_at 109 = .ok (.iconst (-1), 1) := by decide +kernel
theorem dX11_at_110 : decode cX11_at 110 = .ok (.goto 37, 3) := by decide +kernel
theorem dX11_at_113 : decode cX11_at 113 = .ok (.aload_n 0, 1) := by decide +kernel
theorem dX11_at_114 : decode cX11_at 114 = .ok (.getfield 55, 3) := by decide +kernel
theorem dX11_at_117 : decode cX11_at 117 = .ok (.aload_n 0, 1) := by decide +kernel
theorem dX11_at_118 : decode cX11_at 118 = .ok (.getfield 10, 3) := by decide +kernel
theorem dX11_at_121 : decode cX11_at 121 = .ok (.getfield 143, 3) := by decide +kernel
theorem dX11_at_124 : decode cX11_at 124 = .ok (.iload_n 3, 1) := by decide +kernel
theorem dX11_at_125 : decode cX11_at 125 = .ok (.iaload, 1) := by decide +kernel
theorem dX11_at_126 : decode cX11_at 126 = .ok (.aload_n 0, 1) := by decide +kernel
theorem dX11_at_127 : decode cX11_at 127 = .ok (.getfield 10, 3) := by decide +kernel
theorem dX11_at_130 : decode cX11_at 130 = .ok (.getfield 143, 3) := by decide +kernel
theorem dX11_at_133 : decode cX11_at 133 = .ok (.iload_n 1, 1) := by decide +kernel
theorem dX11_at_134 : decode cX11_at 134 = .ok (.iaload, 1) := by decide +kernel
theorem dX11_at_135 : decode cX11_at 135 = .ok (.aload_n 0, 1) := by decide +kernel
theorem dX11_at_136 : decode cX11_at 136 = .ok (.getfield 10, 3) := by decide +kernel
theorem dX11_at_139 : decode cX11_at 139 = .ok (.getfield 122, 3) := by decide +kernel
theorem dX11_at_142 : decode cX11_at 142 = .ok (.iload_n 1, 1) := by decide +kernel
theorem dX11_at_143 : decode cX11_at 143 = .ok (.iaload, 1) := by decide +kernel
theorem dX11_at_144 : decode cX11_at 144 = .ok (.invokevirtual 155, 3) := by decide +kernel
theorem dX11_at_147 : decode cX11_at 147 = .ok (.ireturn, 1) := by decide +kernel
theorem dX11_at_148 : decode cX11_at 148 = .ok (.aload_n 0, 1) := by decide +kernel
theorem dX11_at_149 : decode cX11_at 149 = .ok (.getfield 10, 3) := by decide +kernel
theorem dX11_at_152 : decode cX11_at 152 = .ok (.iload_n 1, 1) := by decide +kernel
theorem dX11_at_153 : decode cX11_at 153 = .ok (.invokevirtual 158, 3) := by decide +kernel
theorem dX11_at_156 : decode cX11_at 156 = .ok (.ireturn, 1) := by decide +kernel
theorem dX11_at_157 : decode cX11_at 157 = .ok (.iconst (-1), 1) := by decide +kernel
theorem dX11_at_158 : decode cX11_at 158 = .ok (.ireturn, 1) := by decide +kernel
theorem dX11_terms_0 : decode cX11_terms 0 = .ok (.iload_n 1, 1) := by decide +kernel
theorem dX11_terms_1 : decode cX11_terms 1 = .ok (.ifCond .ne 32, 3) := by decide +kernel
theorem dX11_terms_4 : decode cX11_terms 4 = .ok (.iload_n 2, 1) := by decide +kernel
theorem dX11_terms_5 : decode cX11_terms 5 = .ok (.invokestatic 116, 3) := by decide +kernel
theorem dX11_terms_8 : decode cX11_terms 8 = .ok (.ifCond .eq 25, 3) := by decide +kernel
theorem dX11_terms_11 : decode cX11_terms 11 = .ok (.aload_n 0, 1) := by decide +kernel
theorem dX11_terms_12 : decode cX11_terms 12 = .ok (.getfield 10, 3) := by decide +kernel
theorem dX11_terms_15 : decode cX11_terms 15 = .ok (.getfield 161, 3) := by decide +kernel
theorem dX11_terms_18 : decode cX11_terms 18 = .ok (.istore_n 3, 1) := by decide +kernel
theorem dX11_terms_19 : decode cX11_terms 19 = .ok (.aload_n 0, 1) := by decide +kernel
theorem dX11_terms_20 : decode cX11_terms 20 = .ok (.getfield 10, 3) := by decide +kernel
theorem dX11_terms_23 : decode cX11_terms 23 = .ok (.iload_n 2, 1) := by decide +kernel
theorem dX11_terms_24 : decode cX11_terms 24 = .ok (.invokevirtual 164, 3) := by decide +kernel
theorem dX11_terms_27 : decode cX11_terms 27 = .ok (.aload_n 0, 1) := by decide +kernel
theorem dX11_terms_28 : decode cX11_terms 28 = .ok (.iload_n 3, 1) := by decide +kernel
theorem dX11_terms_29 : decode cX11_terms 29 = .ok (.invokevirtual 108, 3) := by decide +kernel
theorem dX11_terms_32 : decode cX11_terms 32 = .ok (.ireturn, 1) := by decide +kernel
theorem dX11_terms_33 : decode cX11_terms 33 = .ok (.iload_n 1, 1) := by decide +kernel
theorem dX11_terms_34 : decode cX11_terms 34 = .ok (.iconst 1, 1) := by decide +kernel
theorem dX11_terms_35 : decode cX11_terms 35 = .ok (.if_icmp .ne 42, 3) := by decide +kernel
theorem dX11_terms_38 : decode cX11_terms 38 = .ok (.iload_n 2, 1) := by decide +kernel
theorem dX11_terms_39 : decode cX11_terms 39 = .ok (.ifCond .lt 38, 3) := by decide +kernel
theorem dX11_terms_42 : decode cX11_terms 42 = .ok (.iload_n 2, 1) := by decide +kernel
theorem dX11_terms_43 : decode cX11_terms 43 = .ok (.bipush 9, 2) := by decide +kernel
theorem dX11_terms_45 : decode cX11_terms 45 = .ok (.if_icmp .gt 32, 3) := by decide +kernel
theorem dX11_terms_48 : decode cX11_terms 48 = .ok (.aload_n 0, 1) := by decide +kernel
theorem dX11_terms_49 : decode cX11_terms 49 = .ok (.getfield 10, 3) := by decide +kernel
theorem dX11_terms_52 : decode cX11_terms 52 = .ok (.getfield 167, 3) := by decide +kernel
theorem dX11_terms_55 : decode cX11_terms 55 = .ok (.istore_n 3, 1) := by decide +kernel
theorem dX11_terms_56 : decode cX11_terms 56 = .ok (.aload_n 0, 1) := by decide +kernel
theorem dX11_terms_57 : decode cX11_terms 57 = .ok (.getfield 10, 3) := by decide +kernel
theorem dX11_terms_60 : decode cX11_terms 60 = .ok (.iload_n 2, 1) := by decide +kernel
theorem dX11_terms_61 : decode cX11_terms 61 = .ok (.putfield 167, 3) := by decide +kernel
theorem dX11_terms_64 : decode cX11_terms 64 = .ok (.aload_n 0, 1) := by decide +kernel
theorem dX11_terms_65 : decode cX11_terms 65 = .ok (.getfield 10, 3) := by decide +kernel
theorem dX11_terms_68 : decode cX11_terms 68 = .ok (.invokevirtual 105, 3) := by decide +kernel
theorem dX11_terms_71 : decode cX11_terms 71 = .ok (.aload_n 0, 1) := by decide +kernel
theorem dX11_terms_72 : decode cX11_terms 72 = .ok (.iload_n 3, 1) := by decide +kernel
theorem dX11_terms_73 : decode cX11_terms 73 = .ok (.invokevirtual 108, 3) := by decide +kernel
theorem dX11_terms_76 : decode cX11_terms 76 = .ok (.ireturn, 1) := by decide +kernel
theorem dX11_terms_77 : decode cX11_terms 77 = .ok (.aload_n 0, 1) := by decide +kernel
theorem dX11_terms_78 : decode cX11_terms 78 = .ok (.iconst (-1), 1) := by decide +kernel
theorem dX11_terms_79 : decode cX11_terms 79 = .ok (.invokevirtual 97, 3) := by decide +kernel
theorem dX11_terms_82 : decode cX11_terms 82 = .ok (.ireturn, 1) := by decide +kernel
theorem dX11_feed_0 : decode cX11_feed 0 = .ok (.aload_n 0, 1) := by decide +kernel
theorem dX11_feed_1 : decode cX11_feed 1 = .ok (.getfield 23, 3) := by decide +kernel
theorem dX11_feed_4 : decode cX11_feed 4 = .ok (.bipush 20, 2) := by decide +kernel
theorem dX11_feed_6 : decode cX11_feed 6 = .ok (.invokevirtual 170, 3) := by decide +kernel
theorem dX11_feed_9 : decode cX11_feed 9 = .ok (.ifCond .ne 5, 3) := by decide +kernel
theorem dX11_feed_12 : decode cX11_feed 12 = .ok (.iconst (-1), 1) := by decide +kernel
theorem dX11_feed_13 : decode cX11_feed 13 = .ok (.ireturn, 1) := by decide +kernel
theorem dX11_feed_14 : decode cX11_feed 14 = .ok (.aload_n 0, 1) := by decide +kernel
theorem dX11_feed_15 : decode cX11_feed 15 = .ok (.getfield 23, 3) := by decide +kernel
theorem dX11_feed_18 : decode cX11_feed 18 = .ok (.iload_n 1, 1) := by decide +kernel
theorem dX11_feed_19 : decode cX11_feed 19 = .ok (.invokevirtual 173, 3) := by decide +kernel
theorem dX11_feed_22 : decode cX11_feed 22 = .ok (.aload_n 0, 1) := by decide +kernel
theorem dX11_feed_23 : decode cX11_feed 23 = .ok (.getfield 23, 3) := by decide +kernel
theorem dX11_feed_26 : decode cX11_feed 26 = .ok (.iload_n 2, 1) := by decide +kernel
theorem dX11_feed_27 : decode cX11_feed 27 = .ok (.invokevirtual 173, 3) := by decide +kernel
theorem dX11_feed_30 : decode cX11_feed 30 = .ok (.aload_n 0, 1) := by decide +kernel
theorem dX11_feed_31 : decode cX11_feed 31 = .ok (.getfield 23, 3) := by decide +kernel
theorem dX11_feed_34 : decode cX11_feed 34 = .ok (.iload_n 3, 1) := by decide +kernel
theorem dX11_feed_35 : decode cX11_feed 35 = .ok (.invokevirtual 173, 3) := by decide +kernel
theorem dX11_feed_38 : decode cX11_feed 38 = .ok (.aload_n 0, 1) := by decide +kernel
theorem dX11_feed_39 : decode cX11_feed 39 = .ok (.getfield 23, 3) := by decide +kernel
theorem dX11_feed_42 : decode cX11_feed 42 = .ok (.iload 4, 2) := by decide +kernel
theorem dX11_feed_44 : decode cX11_feed 44 = .ok (.invokevirtual 173, 3) := by decide +kernel
theorem dX11_feed_47 : decode cX11_feed 47 = .ok (.aload_n 0, 1) := by decide +kernel
theorem dX11_feed_48 : decode cX11_feed 48 = .ok (.getfield 23, 3) := by decide +kernel
theorem dX11_feed_51 : decode cX11_feed 51 = .ok (.iload 5, 2) := by decide +kernel
theorem dX11_feed_53 : decode cX11_feed 53 = .ok (.invokevirtual 173, 3) := by decide +kernel
theorem dX11_feed_56 : decode cX11_feed 56 = .ok (.aload_n 0, 1) := by decide +kernel
theorem dX11_feed_57 : decode cX11_feed 57 = .ok (.getfield 23, 3) := by decide +kernel
theorem dX11_feed_60 : decode cX11_feed 60 = .ok (.getfield 176, 3) := by decide +kernel
theorem dX11_feed_63 : decode cX11_feed 63 = .ok (.ireturn, 1) := by decide +kernel
theorem dX11_end_0 : decode cX11_end 0 = .ok (.iload_n 1, 1) := by decide +kernel
theorem dX11_end_1 : decode cX11_end 1 = .ok (.ifCond .lt 14, 3) := by decide +kernel
theorem dX11_end_4 : decode cX11_end 4 = .ok (.iload_n 1, 1) := by decide +kernel
theorem dX11_end_5 : decode cX11_end 5 = .ok (.aload_n 0, 1) := by decide +kernel
theorem dX11_end_6 : decode cX11_end 6 = .ok (.getfield 23, 3) := by decide +kernel
theorem dX11_end_9 : decode cX11_end 9 = .ok (.getfield 176, 3) := by decide +kernel
theorem dX11_end_12 : decode cX11_end 12 = .ok (.if_icmp .le 5, 3) := by decide +kernel
theorem dX11_end_15 : decode cX11_end 15 = .ok (.iconst (-1), 1) := by decide +kernel
theorem dX11_end_16 : decode cX11_end 16 = .ok (.ireturn, 1) := by decide +kernel
theorem dX11_end_17 : decode cX11_end 17 = .ok (.aload_n 0, 1) := by decide +kernel
theorem dX11_end_18 : decode cX11_end 18 = .ok (.getfield 23, 3) := by decide +kernel
theorem dX11_end_21 : decode cX11_end 21 = .ok (.iload_n 1, 1) := by decide +kernel
theorem dX11_end_22 : decode cX11_end 22 = .ok (.putfield 176, 3) := by decide +kernel
theorem dX11_end_25 : decode cX11_end 25 = .ok (.iload_n 1, 1) := by decide +kernel
theorem dX11_end_26 : decode cX11_end 26 = .ok (.ireturn, 1) := by decide +kernel
theorem dX11_row_0 : decode cX11_row 0 = .ok (.aload_n 0, 1) := by decide +kernel
theorem dX11_row_1 : decode cX11_row 1 = .ok (.getfield 23, 3) := by decide +kernel
theorem dX11_row_4 : decode cX11_row 4 = .ok (.getfield 176, 3) := by decide +kernel
theorem dX11_row_7 : decode cX11_row 7 = .ok (.ifCond .ne 10, 3) := by decide +kernel
theorem dX11_row_10 : decode cX11_row 10 = .ok (.aload_n 0, 1) := by decide +kernel
theorem dX11_row_11 : decode cX11_row 11 = .ok (.bipush (-6), 2) := by decide +kernel
theorem dX11_row_13 : decode cX11_row 13 = .ok (.invokevirtual 97, 3) := by decide +kernel
theorem dX11_row_16 : decode cX11_row 16 = .ok (.ireturn, 1) := by decide +kernel
theorem dX11_row_17 : decode cX11_row 17 = .ok (.iconst 0, 1) := by decide +kernel
theorem dX11_row_18 : decode cX11_row 18 = .ok (.istore_n 1, 1) := by decide +kernel
theorem dX11_row_19 : decode cX11_row 19 = .ok (.iconst 0, 1) := by decide +kernel
theorem dX11_row_20 : decode cX11_row 20 = .ok (.istore_n 2, 1) := by decide +kernel
theorem dX11_row_21 : decode cX11_row 21 = .ok (.iconst 0, 1) := by decide +kernel
theorem dX11_row_22 : decode cX11_row 22 = .ok (.istore_n 3, 1) := by decide +kernel
theorem dX11_row_23 : decode cX11_row 23 = .ok (.iconst 0, 1) := by decide +kernel
theorem dX11_row_24 : decode cX11_row 24 = .ok (.istore 4, 2) := by decide +kernel
theorem dX11_row_26 : decode cX11_row 26 = .ok (.iload 4, 2) := by decide +kernel
theorem dX11_row_28 : decode cX11_row 28 = .ok (.aload_n 0, 1) := by decide +kernel
theorem dX11_row_29 : decode cX11_row 29 = .ok (.getfield 23, 3) := by decide +kernel
theorem dX11_row_32 : decode cX11_row 32 = .ok (.getfield 176, 3) := by decide +kernel
theorem dX11_row_35 : decode cX11_row 35 = .ok (.if_icmp .gt 106, 3) := by decide +kernel
theorem dX11_row_38 : decode cX11_row 38 = .ok (.aload_n 0, 1) := by decide +kernel
theorem dX11_row_39 : decode cX11_row 39 = .ok (.getfield 23, 3) := by decide +kernel
theorem dX11_row_42 : decode cX11_row 42 = .ok (.iload 4, 2) := by decide +kernel
theorem dX11_row_44 : decode cX11_row 44 = .ok (.invokevirtual 179, 3) := by decide +kernel
theorem dX11_row_47 : decode cX11_row 47 = .ok (.ifCond .eq 6, 3) := by decide +kernel
theorem dX11_row_50 : decode cX11_row 50 = .ok (.goto 85, 3) := by decide +kernel
theorem dX11_row_53 : decode cX11_row 53 = .ok (.iload 4, 2) := by decide +kernel
theorem dX11_row_55 : decode cX11_row 55 = .ok (.iload_n 3, 1) := by decide +kernel
theorem dX11_row_56 : decode cX11_row 56 = .ok (.if_icmp .le 74, 3) := by decide +kernel
theorem dX11_row_59 : decode cX11_row 59 = .ok (.aload_n 0, 1) := by decide +kernel
theorem dX11_row_60 : decode cX11_row 60 = .ok (.getfield 23, 3) := by decide +kernel
theorem dX11_row_63 : decode cX11_row 63 = .ok (.iload_n 3, 1) := by decide +kernel
theorem dX11_row_64 : decode cX11_row 64 = .ok (.iload 4, 2) := by decide +kernel
theorem dX11_row_66 : decode cX11_row 66 = .ok (.invokevirtual 182, 3) := by decide +kernel
theorem dX11_row_69 : decode cX11_row 69 = .ok (.istore 5, 2) := by decide +kernel
theorem dX11_row_71 : decode cX11_row 71 = .ok (.iload 5, 2) := by decide +kernel
theorem dX11_row_73 : decode cX11_row 73 = .ok (.iconst (-1), 1) := by decide +kernel
theorem dX11_row_74 : decode cX11_row 74 = .ok (.if_icmp .eq 27, 3) := by decide +kernel
theorem dX11_row_77 : decode cX11_row 77 = .ok (.aload_n 0, 1) := by decide +kernel
theorem dX11_row_78 : decode cX11_row 78 = .ok (.getfield 10, 3) := by decide +kernel
theorem dX11_row_81 : decode cX11_row 81 = .ok (.iconst (-1), 1) := by decide +kernel
theorem dX11_row_82 : decode cX11_row 82 = .ok (.aload_n 0, 1) := by decide +kernel
theorem dX11_row_83 : decode cX11_row 83 = .ok (.getfield 10, 3) := by decide +kernel
theorem dX11_row_86 : decode cX11_row 86 = .ok (.getfield 161, 3) := by decide +kernel
theorem dX11_row_89 : decode cX11_row 89 = .ok (.iload 5, 2) := by decide +kernel
theorem dX11_row_91 : decode cX11_row 91 = .ok (.invokevirtual 125, 3) := by decide +kernel
theorem dX11_row_94 : decode cX11_row 94 = .ok (.ifCond .lt 7, 3) := by decide +kernel
theorem dX11_row_97 : decode cX11_row 97 = .ok (.iconst 1, 1) := by decide +kernel
theorem dX11_row_98 : decode cX11_row 98 = .ok (.goto 4, 3) := by decide +kernel
theorem dX11_row_101 : decode cX11_row 101 = .ok (.iconst 0, 1) := by decide +kernel
theorem dX11_row_102 : decode cX11_row 102 = .ok (.istore 6, 2) := by decide +kernel
theorem dX11_row_104 : decode cX11_row 104 = .ok (.iload_n 1, 1) := by decide +kernel
theorem dX11_row_105 : decode cX11_row 105 = .ok (.iload 6, 2) := by decide +kernel
theorem dX11_row_107 : decode cX11_row 107 = .ok (.ifCond .eq 7, 3) := by decide +kernel
theorem dX11_row_110 : decode cX11_row 110 = .ok (.iconst 1, 1) := by decide +kernel
theorem dX11_row_111 : decode cX11_row 111 = .ok (.goto 4, 3) := by decide +kernel
theorem dX11_row_114 : decode cX11_row 114 = .ok (.iconst 0, 1) := by decide +kernel
theorem dX11_row_115 : decode cX11_row 115 = .ok (.iadd, 1) := by decide +kernel
theorem dX11_row_116 : decode cX11_row 116 = .ok (.istore_n 1, 1) := by decide +kernel
theorem dX11_row_117 : decode cX11_row 117 = .ok (.iload_n 2, 1) := by decide +kernel
theorem dX11_row_118 : decode cX11_row 118 = .ok (.iload 6, 2) := by decide +kernel
theorem dX11_row_120 : decode cX11_row 120 = .ok (.ifCond .eq 7, 3) := by decide +kernel
theorem dX11_row_123 : decode cX11_row 123 = .ok (.iconst 0, 1) := by decide +kernel
theorem dX11_row_124 : decode cX11_row 124 = .ok (.goto 4, 3) := by decide +kernel
theorem dX11_row_127 : decode cX11_row 127 = .ok (.iconst 1, 1) := by decide +kernel
theorem dX11_row_128 : decode cX11_row 128 = .ok (.iadd, 1) := by decide +kernel
theorem dX11_row_129 : decode cX11_row 129 = .ok (.istore_n 2, 1) := by decide +kernel
theorem dX11_row_130 : decode cX11_row 130 = .ok (.iload 4, 2) := by decide +kernel
theorem dX11_row_132 : decode cX11_row 132 = .ok (.iconst 1, 1) := by decide +kernel
theorem dX11_row_133 : decode cX11_row 133 = .ok (.iadd, 1) := by decide +kernel
theorem dX11_row_134 : decode cX11_row 134 = .ok (.istore_n 3, 1) := by decide +kernel
theorem dX11_row_135 : decode cX11_row 135 = .ok (.iinc 4 1, 3) := by decide +kernel
theorem dX11_row_138 : decode cX11_row 138 = .ok (.goto (-112), 3) := by decide +kernel
theorem dX11_row_141 : decode cX11_row 141 = .ok (.aload_n 0, 1) := by decide +kernel
theorem dX11_row_142 : decode cX11_row 142 = .ok (.getfield 23, 3) := by decide +kernel
theorem dX11_row_145 : decode cX11_row 145 = .ok (.iconst 0, 1) := by decide +kernel
theorem dX11_row_146 : decode cX11_row 146 = .ok (.putfield 176, 3) := by decide +kernel
theorem dX11_row_149 : decode cX11_row 149 = .ok (.aload_n 0, 1) := by decide +kernel
theorem dX11_row_150 : decode cX11_row 150 = .ok (.iload_n 2, 1) := by decide +kernel
theorem dX11_row_151 : decode cX11_row 151 = .ok (.putfield 186, 3) := by decide +kernel
theorem dX11_row_154 : decode cX11_row 154 = .ok (.aload_n 0, 1) := by decide +kernel
theorem dX11_row_155 : decode cX11_row 155 = .ok (.iload_n 1, 1) := by decide +kernel
theorem dX11_row_156 : decode cX11_row 156 = .ok (.invokevirtual 108, 3) := by decide +kernel
theorem dX11_row_159 : decode cX11_row 159 = .ok (.ireturn, 1) := by decide +kernel
theorem dX11_burnt_0 : decode cX11_burnt 0 = .ok (.aload_n 0, 1) := by decide +kernel
theorem dX11_burnt_1 : decode cX11_burnt 1 = .ok (.getfield 186, 3) := by decide +kernel
theorem dX11_burnt_4 : decode cX11_burnt 4 = .ok (.ireturn, 1) := by decide +kernel
theorem dX11_law_0 : decode cX11_law 0 = .ok (.aload_n 0, 1) := by decide +kernel
theorem dX11_law_1 : decode cX11_law 1 = .ok (.getfield 10, 3) := by decide +kernel
theorem dX11_law_4 : decode cX11_law 4 = .ok (.getfield 189, 3) := by decide +kernel
theorem dX11_law_7 : decode cX11_law 7 = .ok (.bipush 6, 2) := by decide +kernel
theorem dX11_law_9 : decode cX11_law 9 = .ok (.if_icmp .lt 18, 3) := by decide +kernel
theorem dX11_law_12 : decode cX11_law 12 = .ok (.aload_n 0, 1) := by decide +kernel
theorem dX11_law_13 : decode cX11_law 13 = .ok (.getfield 23, 3) := by decide +kernel
theorem dX11_law_16 : decode cX11_law 16 = .ok (.iconst 0, 1) := by decide +kernel
theorem dX11_law_17 : decode cX11_law 17 = .ok (.putfield 176, 3) := by decide +kernel
theorem dX11_law_20 : decode cX11_law 20 = .ok (.aload_n 0, 1) := by decide +kernel
theorem dX11_law_21 : decode cX11_law 21 = .ok (.bipush (-5), 2) := by decide +kernel
theorem dX11_law_23 : decode cX11_law 23 = .ok (.invokevirtual 97, 3) := by decide +kernel
theorem dX11_law_26 : decode cX11_law 26 = .ok (.ireturn, 1) := by decide +kernel
theorem dX11_law_27 : decode cX11_law 27 = .ok (.aload_n 0, 1) := by decide +kernel
theorem dX11_law_28 : decode cX11_law 28 = .ok (.getfield 23, 3) := by decide +kernel
theorem dX11_law_31 : decode cX11_law 31 = .ok (.iconst 0, 1) := by decide +kernel
theorem dX11_law_32 : decode cX11_law 32 = .ok (.invokevirtual 192, 3) := by decide +kernel
theorem dX11_law_35 : decode cX11_law 35 = .ok (.istore_n 1, 1) := by decide +kernel
theorem dX11_law_36 : decode cX11_law 36 = .ok (.aload_n 0, 1) := by decide +kernel
theorem dX11_law_37 : decode cX11_law 37 = .ok (.getfield 23, 3) := by decide +kernel
theorem dX11_law_40 : decode cX11_law 40 = .ok (.iconst 0, 1) := by decide +kernel
theorem dX11_law_41 : decode cX11_law 41 = .ok (.putfield 176, 3) := by decide +kernel
theorem dX11_law_44 : decode cX11_law 44 = .ok (.aload_n 0, 1) := by decide +kernel
theorem dX11_law_45 : decode cX11_law 45 = .ok (.aload_n 0, 1) := by decide +kernel
theorem dX11_law_46 : decode cX11_law 46 = .ok (.getfield 23, 3) := by decide +kernel
theorem dX11_law_49 : decode cX11_law 49 = .ok (.getfield 196, 3) := by decide +kernel
theorem dX11_law_52 : decode cX11_law 52 = .ok (.putfield 82, 3) := by decide +kernel
theorem dX11_law_55 : decode cX11_law 55 = .ok (.iload_n 1, 1) := by decide +kernel
theorem dX11_law_56 : decode cX11_law 56 = .ok (.ifCond .ne 10, 3) := by decide +kernel
theorem dX11_law_59 : decode cX11_law 59 = .ok (.aload_n 0, 1) := by decide +kernel
theorem dX11_law_60 : decode cX11_law 60 = .ok (.bipush (-6), 2) := by decide +kernel
theorem dX11_law_62 : decode cX11_law 62 = .ok (.invokevirtual 97, 3) := by decide +kernel
theorem dX11_law_65 : decode cX11_law 65 = .ok (.ireturn, 1) := by decide +kernel
theorem dX11_law_66 : decode cX11_law 66 = .ok (.aload_n 0, 1) := by decide +kernel
theorem dX11_law_67 : decode cX11_law 67 = .ok (.aload_n 0, 1) := by decide +kernel
theorem dX11_law_68 : decode cX11_law 68 = .ok (.getfield 10, 3) := by decide +kernel
theorem dX11_law_71 : decode cX11_law 71 = .ok (.aload_n 0, 1) := by decide +kernel
theorem dX11_law_72 : decode cX11_law 72 = .ok (.getfield 23, 3) := by decide +kernel
theorem dX11_law_75 : decode cX11_law 75 = .ok (.getfield 199, 3) := by decide +kernel
theorem dX11_law_78 : decode cX11_law 78 = .ok (.invokevirtual 203, 3) := by decide +kernel
