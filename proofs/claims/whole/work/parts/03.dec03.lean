theorem dX11_law_81 : decode cX11_law 81 = .ok (.invokevirtual 209, 3) := by decide +kernel
theorem dX11_law_84 : decode cX11_law 84 = .ok (.invokevirtual 108, 3) := by decide +kernel
theorem dX11_law_87 : decode cX11_law 87 = .ok (.ireturn, 1) := by decide +kernel
theorem dX11_orders_0 : decode cX11_orders 0 = .ok (.aload_n 0, 1) := by decide +kernel
theorem dX11_orders_1 : decode cX11_orders 1 = .ok (.getfield 23, 3) := by decide +kernel
theorem dX11_orders_4 : decode cX11_orders 4 = .ok (.iconst 1, 1) := by decide +kernel
theorem dX11_orders_5 : decode cX11_orders 5 = .ok (.invokevirtual 192, 3) := by decide +kernel
theorem dX11_orders_8 : decode cX11_orders 8 = .ok (.istore_n 1, 1) := by decide +kernel
theorem dX11_orders_9 : decode cX11_orders 9 = .ok (.aload_n 0, 1) := by decide +kernel
theorem dX11_orders_10 : decode cX11_orders 10 = .ok (.getfield 23, 3) := by decide +kernel
theorem dX11_orders_13 : decode cX11_orders 13 = .ok (.iconst 0, 1) := by decide +kernel
theorem dX11_orders_14 : decode cX11_orders 14 = .ok (.putfield 176, 3) := by decide +kernel
theorem dX11_orders_17 : decode cX11_orders 17 = .ok (.aload_n 0, 1) := by decide +kernel
theorem dX11_orders_18 : decode cX11_orders 18 = .ok (.aload_n 0, 1) := by decide +kernel
theorem dX11_orders_19 : decode cX11_orders 19 = .ok (.getfield 23, 3) := by decide +kernel
theorem dX11_orders_22 : decode cX11_orders 22 = .ok (.getfield 196, 3) := by decide +kernel
theorem dX11_orders_25 : decode cX11_orders 25 = .ok (.putfield 82, 3) := by decide +kernel
theorem dX11_orders_28 : decode cX11_orders 28 = .ok (.aload_n 0, 1) := by decide +kernel
theorem dX11_orders_29 : decode cX11_orders 29 = .ok (.iconst (-1), 1) := by decide +kernel
theorem dX11_orders_30 : decode cX11_orders 30 = .ok (.putfield 86, 3) := by decide +kernel
theorem dX11_orders_33 : decode cX11_orders 33 = .ok (.iload_n 1, 1) := by decide +kernel
theorem dX11_orders_34 : decode cX11_orders 34 = .ok (.ifCond .ne 10, 3) := by decide +kernel
theorem dX11_orders_37 : decode cX11_orders 37 = .ok (.aload_n 0, 1) := by decide +kernel
theorem dX11_orders_38 : decode cX11_orders 38 = .ok (.bipush (-6), 2) := by decide +kernel
theorem dX11_orders_40 : decode cX11_orders 40 = .ok (.invokevirtual 97, 3) := by decide +kernel
theorem dX11_orders_43 : decode cX11_orders 43 = .ok (.ireturn, 1) := by decide +kernel
theorem dX11_orders_44 : decode cX11_orders 44 = .ok (.aload_n 0, 1) := by decide +kernel
theorem dX11_orders_45 : decode cX11_orders 45 = .ok (.getfield 10, 3) := by decide +kernel
theorem dX11_orders_48 : decode cX11_orders 48 = .ok (.getfield 136, 3) := by decide +kernel
theorem dX11_orders_51 : decode cX11_orders 51 = .ok (.istore_n 2, 1) := by decide +kernel
theorem dX11_orders_52 : decode cX11_orders 52 = .ok (.aload_n 0, 1) := by decide +kernel
theorem dX11_orders_53 : decode cX11_orders 53 = .ok (.getfield 10, 3) := by decide +kernel
theorem dX11_orders_56 : decode cX11_orders 56 = .ok (.getfield 161, 3) := by decide +kernel
theorem dX11_orders_59 : decode cX11_orders 59 = .ok (.istore_n 3, 1) := by decide +kernel
theorem dX11_orders_60 : decode cX11_orders 60 = .ok (.aload_n 0, 1) := by decide +kernel
theorem dX11_orders_61 : decode cX11_orders 61 = .ok (.invokevirtual 213, 3) := by decide +kernel
theorem dX11_orders_64 : decode cX11_orders 64 = .ok (.iconst 0, 1) := by decide +kernel
theorem dX11_orders_65 : decode cX11_orders 65 = .ok (.istore 4, 2) := by decide +kernel
theorem dX11_orders_67 : decode cX11_orders 67 = .ok (.iload 4, 2) := by decide +kernel
theorem dX11_orders_69 : decode cX11_orders 69 = .ok (.aload_n 0, 1) := by decide +kernel
theorem dX11_orders_70 : decode cX11_orders 70 = .ok (.getfield 23, 3) := by decide +kernel
theorem dX11_orders_73 : decode cX11_orders 73 = .ok (.getfield 199, 3) := by decide +kernel
theorem dX11_orders_76 : decode cX11_orders 76 = .ok (.getfield 216, 3) := by decide +kernel
theorem dX11_orders_79 : decode cX11_orders 79 = .ok (.if_icmp .ge 85, 3) := by decide +kernel
theorem dX11_orders_82 : decode cX11_orders 82 = .ok (.iconst 0, 1) := by decide +kernel
theorem dX11_orders_83 : decode cX11_orders 83 = .ok (.istore 5, 2) := by decide +kernel
theorem dX11_orders_85 : decode cX11_orders 85 = .ok (.iload 5, 2) := by decide +kernel
theorem dX11_orders_87 : decode cX11_orders 87 = .ok (.aload_n 0, 1) := by decide +kernel
theorem dX11_orders_88 : decode cX11_orders 88 = .ok (.getfield 23, 3) := by decide +kernel
theorem dX11_orders_91 : decode cX11_orders 91 = .ok (.getfield 199, 3) := by decide +kernel
theorem dX11_orders_94 : decode cX11_orders 94 = .ok (.iload 4, 2) := by decide +kernel
theorem dX11_orders_96 : decode cX11_orders 96 = .ok (.iconst 1, 1) := by decide +kernel
theorem dX11_orders_97 : decode cX11_orders 97 = .ok (.invokevirtual 217, 3) := by decide +kernel
theorem dX11_orders_100 : decode cX11_orders 100 = .ok (.if_icmp .ge 58, 3) := by decide +kernel
theorem dX11_orders_103 : decode cX11_orders 103 = .ok (.aload_n 0, 1) := by decide +kernel
theorem dX11_orders_104 : decode cX11_orders 104 = .ok (.aload_n 0, 1) := by decide +kernel
theorem dX11_orders_105 : decode cX11_orders 105 = .ok (.getfield 23, 3) := by decide +kernel
theorem dX11_orders_108 : decode cX11_orders 108 = .ok (.getfield 199, 3) := by decide +kernel
theorem dX11_orders_111 : decode cX11_orders 111 = .ok (.iload 4, 2) := by decide +kernel
theorem dX11_orders_113 : decode cX11_orders 113 = .ok (.invokevirtual 220, 3) := by decide +kernel
theorem dX11_orders_116 : decode cX11_orders 116 = .ok (.istore 6, 2) := by decide +kernel
theorem dX11_orders_118 : decode cX11_orders 118 = .ok (.iload 6, 2) := by decide +kernel
theorem dX11_orders_120 : decode cX11_orders 120 = .ok (.ifCond .ge 32, 3) := by decide +kernel
theorem dX11_orders_123 : decode cX11_orders 123 = .ok (.aload_n 0, 1) := by decide +kernel
theorem dX11_orders_124 : decode cX11_orders 124 = .ok (.iload 4, 2) := by decide +kernel
theorem dX11_orders_126 : decode cX11_orders 126 = .ok (.putfield 86, 3) := by decide +kernel
theorem dX11_orders_129 : decode cX11_orders 129 = .ok (.aload_n 0, 1) := by decide +kernel
theorem dX11_orders_130 : decode cX11_orders 130 = .ok (.getfield 10, 3) := by decide +kernel
theorem dX11_orders_133 : decode cX11_orders 133 = .ok (.iload_n 2, 1) := by decide +kernel
theorem dX11_orders_134 : decode cX11_orders 134 = .ok (.invokevirtual 139, 3) := by decide +kernel
theorem dX11_orders_137 : decode cX11_orders 137 = .ok (.aload_n 0, 1) := by decide +kernel
theorem dX11_orders_138 : decode cX11_orders 138 = .ok (.getfield 10, 3) := by decide +kernel
theorem dX11_orders_141 : decode cX11_orders 141 = .ok (.iload_n 3, 1) := by decide +kernel
theorem dX11_orders_142 : decode cX11_orders 142 = .ok (.invokevirtual 164, 3) := by decide +kernel
theorem dX11_orders_145 : decode cX11_orders 145 = .ok (.aload_n 0, 1) := by decide +kernel
theorem dX11_orders_146 : decode cX11_orders 146 = .ok (.iload 6, 2) := by decide +kernel
theorem dX11_orders_148 : decode cX11_orders 148 = .ok (.invokevirtual 97, 3) := by decide +kernel
theorem dX11_orders_151 : decode cX11_orders 151 = .ok (.ireturn, 1) := by decide +kernel
theorem dX11_orders_152 : decode cX11_orders 152 = .ok (.iinc 5 1, 3) := by decide +kernel
theorem dX11_orders_155 : decode cX11_orders 155 = .ok (.goto (-70), 3) := by decide +kernel
theorem dX11_orders_158 : decode cX11_orders 158 = .ok (.iinc 4 1, 3) := by decide +kernel
theorem dX11_orders_161 : decode cX11_orders 161 = .ok (.goto (-94), 3) := by decide +kernel
theorem dX11_orders_164 : decode cX11_orders 164 = .ok (.aload_n 0, 1) := by decide +kernel
theorem dX11_orders_165 : decode cX11_orders 165 = .ok (.aload_n 0, 1) := by decide +kernel
theorem dX11_orders_166 : decode cX11_orders 166 = .ok (.getfield 30, 3) := by decide +kernel
theorem dX11_orders_169 : decode cX11_orders 169 = .ok (.getfield 224, 3) := by decide +kernel
theorem dX11_orders_172 : decode cX11_orders 172 = .ok (.iconst 2, 1) := by decide +kernel
theorem dX11_orders_173 : decode cX11_orders 173 = .ok (.iaload, 1) := by decide +kernel
theorem dX11_orders_174 : decode cX11_orders 174 = .ok (.invokevirtual 108, 3) := by decide +kernel
theorem dX11_orders_177 : decode cX11_orders 177 = .ok (.ireturn, 1) := by decide +kernel
theorem dX11_fault_0 : decode cX11_fault 0 = .ok (.aload_n 0, 1) := by decide +kernel
theorem dX11_fault_1 : decode cX11_fault 1 = .ok (.getfield 82, 3) := by decide +kernel
theorem dX11_fault_4 : decode cX11_fault 4 = .ok (.ireturn, 1) := by decide +kernel
theorem dX11_stopped_0 : decode cX11_stopped 0 = .ok (.aload_n 0, 1) := by decide +kernel
theorem dX11_stopped_1 : decode cX11_stopped 1 = .ok (.getfield 86, 3) := by decide +kernel
theorem dX11_stopped_4 : decode cX11_stopped 4 = .ok (.ireturn, 1) := by decide +kernel
theorem dX11_force_0 : decode cX11_force 0 = .ok (.iload_n 1, 1) := by decide +kernel
theorem dX11_force_1 : decode cX11_force 1 = .ok (.iconst (-1), 1) := by decide +kernel
theorem dX11_force_2 : decode cX11_force 2 = .ok (.if_icmp .lt 14, 3) := by decide +kernel
theorem dX11_force_5 : decode cX11_force 5 = .ok (.iload_n 1, 1) := by decide +kernel
theorem dX11_force_6 : decode cX11_force 6 = .ok (.aload_n 0, 1) := by decide +kernel
theorem dX11_force_7 : decode cX11_force 7 = .ok (.getfield 10, 3) := by decide +kernel
theorem dX11_force_10 : decode cX11_force 10 = .ok (.getfield 189, 3) := by decide +kernel
theorem dX11_force_13 : decode cX11_force 13 = .ok (.if_icmp .lt 10, 3) := by decide +kernel
theorem dX11_force_16 : decode cX11_force 16 = .ok (.aload_n 0, 1) := by decide +kernel
theorem dX11_force_17 : decode cX11_force 17 = .ok (.bipush (-2), 2) := by decide +kernel
theorem dX11_force_19 : decode cX11_force 19 = .ok (.invokevirtual 97, 3) := by decide +kernel
theorem dX11_force_22 : decode cX11_force 22 = .ok (.ireturn, 1) := by decide +kernel
theorem dX11_force_23 : decode cX11_force 23 = .ok (.aload_n 0, 1) := by decide +kernel
theorem dX11_force_24 : decode cX11_force 24 = .ok (.getfield 10, 3) := by decide +kernel
theorem dX11_force_27 : decode cX11_force 27 = .ok (.getfield 227, 3) := by decide +kernel
theorem dX11_force_30 : decode cX11_force 30 = .ok (.istore_n 2, 1) := by decide +kernel
theorem dX11_force_31 : decode cX11_force 31 = .ok (.aload_n 0, 1) := by decide +kernel
theorem dX11_force_32 : decode cX11_force 32 = .ok (.getfield 10, 3) := by decide +kernel
theorem dX11_force_35 : decode cX11_force 35 = .ok (.iload_n 1, 1) := by decide +kernel
theorem dX11_force_36 : decode cX11_force 36 = .ok (.putfield 227, 3) := by decide +kernel
theorem dX11_force_39 : decode cX11_force 39 = .ok (.aload_n 0, 1) := by decide +kernel
theorem dX11_force_40 : decode cX11_force 40 = .ok (.getfield 10, 3) := by decide +kernel
theorem dX11_force_43 : decode cX11_force 43 = .ok (.invokevirtual 105, 3) := by decide +kernel
theorem dX11_force_46 : decode cX11_force 46 = .ok (.aload_n 0, 1) := by decide +kernel
theorem dX11_force_47 : decode cX11_force 47 = .ok (.iload_n 2, 1) := by decide +kernel
theorem dX11_force_48 : decode cX11_force 48 = .ok (.invokevirtual 108, 3) := by decide +kernel
theorem dX11_force_51 : decode cX11_force 51 = .ok (.ireturn, 1) := by decide +kernel
theorem dX11_change_0 : decode cX11_change 0 = .ok (.iload_n 1, 1) := by decide +kernel
theorem dX11_change_1 : decode cX11_change 1 = .ok (.invokestatic 111, 3) := by decide +kernel
theorem dX11_change_4 : decode cX11_change 4 = .ok (.istore 6, 2) := by decide +kernel
theorem dX11_change_6 : decode cX11_change 6 = .ok (.iload 6, 2) := by decide +kernel
theorem dX11_change_8 : decode cX11_change 8 = .ok (.iconst (-1), 1) := by decide +kernel
theorem dX11_change_9 : decode cX11_change 9 = .ok (.if_icmp .eq 24, 3) := by decide +kernel
theorem dX11_change_12 : decode cX11_change 12 = .ok (.iload_n 2, 1) := by decide +kernel
theorem dX11_change_13 : decode cX11_change 13 = .ok (.iload_n 3, 1) := by decide +kernel
theorem dX11_change_14 : decode cX11_change 14 = .ok (.iload 4, 2) := by decide +kernel
theorem dX11_change_16 : decode cX11_change 16 = .ok (.invokestatic 230, 3) := by decide +kernel
theorem dX11_change_19 : decode cX11_change 19 = .ok (.ifCond .eq 14, 3) := by decide +kernel
theorem dX11_change_22 : decode cX11_change 22 = .ok (.iload 5, 2) := by decide +kernel
theorem dX11_change_24 : decode cX11_change 24 = .ok (.ifCond .lt 9, 3) := by decide +kernel
theorem dX11_change_27 : decode cX11_change 27 = .ok (.iload 5, 2) := by decide +kernel
theorem dX11_change_29 : decode cX11_change 29 = .ok (.iconst 1, 1) := by decide +kernel
theorem dX11_change_30 : decode cX11_change 30 = .ok (.if_icmp .le 5, 3) := by decide +kernel
theorem dX11_change_33 : decode cX11_change 33 = .ok (.iconst (-1), 1) := by decide +kernel
theorem dX11_change_34 : decode cX11_change 34 = .ok (.ireturn, 1) := by decide +kernel
theorem dX11_change_35 : decode cX11_change 35 = .ok (.aload_n 0, 1) := by decide +kernel
theorem dX11_change_36 : decode cX11_change 36 = .ok (.getfield 39, 3) := by decide +kernel
theorem dX11_change_39 : decode cX11_change 39 = .ok (.aload_n 0, 1) := by decide +kernel
theorem dX11_change_40 : decode cX11_change 40 = .ok (.getfield 10, 3) := by decide +kernel
theorem dX11_change_43 : decode cX11_change 43 = .ok (.getfield 161, 3) := by decide +kernel
theorem dX11_change_46 : decode cX11_change 46 = .ok (.invokevirtual 233, 3) := by decide +kernel
theorem dX11_change_49 : decode cX11_change 49 = .ok (.aload_n 0, 1) := by decide +kernel
theorem dX11_change_50 : decode cX11_change 50 = .ok (.getfield 48, 3) := by decide +kernel
theorem dX11_change_53 : decode cX11_change 53 = .ok (.iload 6, 2) := by decide +kernel
theorem dX11_change_55 : decode cX11_change 55 = .ok (.invokevirtual 236, 3) := by decide +kernel
theorem dX11_change_58 : decode cX11_change 58 = .ok (.aload_n 0, 1) := by decide +kernel
theorem dX11_change_59 : decode cX11_change 59 = .ok (.getfield 48, 3) := by decide +kernel
theorem dX11_change_62 : decode cX11_change 62 = .ok (.iload_n 2, 1) := by decide +kernel
theorem dX11_change_63 : decode cX11_change 63 = .ok (.iload_n 3, 1) := by decide +kernel
theorem dX11_change_64 : decode cX11_change 64 = .ok (.iload 4, 2) := by decide +kernel
theorem dX11_change_66 : decode cX11_change 66 = .ok (.invokevirtual 239, 3) := by decide +kernel
theorem dX11_change_69 : decode cX11_change 69 = .ok (.istore 7, 2) := by decide +kernel
theorem dX11_change_71 : decode cX11_change 71 = .ok (.iload 5, 2) := by decide +kernel
theorem dX11_change_73 : decode cX11_change 73 = .ok (.ifCond .eq 9, 3) := by decide +kernel
theorem dX11_change_76 : decode cX11_change 76 = .ok (.iload 7, 2) := by decide +kernel
theorem dX11_change_78 : decode cX11_change 78 = .ok (.iconst (-1), 1) := by decide +kernel
theorem dX11_change_79 : decode cX11_change 79 = .ok (.if_icmp .ne 11, 3) := by decide +kernel
theorem dX11_change_82 : decode cX11_change 82 = .ok (.iload 7, 2) := by decide +kernel
theorem dX11_change_84 : decode cX11_change 84 = .ok (.invokestatic 146, 3) := by decide +kernel
theorem dX11_change_87 : decode cX11_change 87 = .ok (.goto 10, 3) := by decide +kernel
theorem dX11_change_90 : decode cX11_change 90 = .ok (.aload_n 0, 1) := by decide +kernel
theorem dX11_change_91 : decode cX11_change 91 = .ok (.getfield 48, 3) := by decide +kernel
theorem dX11_change_94 : decode cX11_change 94 = .ok (.getfield 242, 3) := by decide +kernel
theorem dX11_change_97 : decode cX11_change 97 = .ok (.ireturn, 1) := by decide +kernel
theorem dX11_changes_0 : decode cX11_changes 0 = .ok (.iload_n 1, 1) := by decide +kernel
theorem dX11_changes_1 : decode cX11_changes 1 = .ok (.invokestatic 111, 3) := by decide +kernel
theorem dX11_changes_4 : decode cX11_changes 4 = .ok (.istore_n 3, 1) := by decide +kernel
theorem dX11_changes_5 : decode cX11_changes 5 = .ok (.iload_n 3, 1) := by decide +kernel
theorem dX11_changes_6 : decode cX11_changes 6 = .ok (.iconst (-1), 1) := by decide +kernel
theorem dX11_changes_7 : decode cX11_changes 7 = .ok (.if_icmp .eq 8, 3) := by decide +kernel
theorem dX11_changes_10 : decode cX11_changes 10 = .ok (.iload_n 2, 1) := by decide +kernel
theorem dX11_changes_11 : decode cX11_changes 11 = .ok (.iconst (-1), 1) := by decide +kernel
theorem dX11_changes_12 : decode cX11_changes 12 = .ok (.if_icmp .ge 5, 3) := by decide +kernel
theorem dX11_changes_15 : decode cX11_changes 15 = .ok (.iconst (-1), 1) := by decide +kernel
theorem dX11_changes_16 : decode cX11_changes 16 = .ok (.ireturn, 1) := by decide +kernel
theorem dX11_changes_17 : decode cX11_changes 17 = .ok (.aload_n 0, 1) := by decide +kernel
theorem dX11_changes_18 : decode cX11_changes 18 = .ok (.getfield 39, 3) := by decide +kernel
theorem dX11_changes_21 : decode cX11_changes 21 = .ok (.aload_n 0, 1) := by decide +kernel
theorem dX11_changes_22 : decode cX11_changes 22 = .ok (.getfield 10, 3) := by decide +kernel
theorem dX11_changes_25 : decode cX11_changes 25 = .ok (.getfield 161, 3) := by decide +kernel
theorem dX11_changes_28 : decode cX11_changes 28 = .ok (.invokevirtual 233, 3) := by decide +kernel
theorem dX11_changes_31 : decode cX11_changes 31 = .ok (.aload_n 0, 1) := by decide +kernel
theorem dX11_changes_32 : decode cX11_changes 32 = .ok (.getfield 48, 3) := by decide +kernel
theorem dX11_changes_35 : decode cX11_changes 35 = .ok (.iload_n 3, 1) := by decide +kernel
theorem dX11_changes_36 : decode cX11_changes 36 = .ok (.invokevirtual 245, 3) := by decide +kernel
theorem dX11_changes_39 : decode cX11_changes 39 = .ok (.iload_n 2, 1) := by decide +kernel
theorem dX11_changes_40 : decode cX11_changes 40 = .ok (.iconst (-1), 1) := by decide +kernel
theorem dX11_changes_41 : decode cX11_changes 41 = .ok (.if_icmp .ne 11, 3) := by decide +kernel
theorem dX11_changes_44 : decode cX11_changes 44 = .ok (.aload_n 0, 1) := by decide +kernel
theorem dX11_changes_45 : decode cX11_changes 45 = .ok (.getfield 48, 3) := by decide +kernel
theorem dX11_changes_48 : decode cX11_changes 48 = .ok (.getfield 248, 3) := by decide +kernel
theorem dX11_changes_51 : decode cX11_changes 51 = .ok (.ireturn, 1) := by decide +kernel
theorem dX11_changes_52 : decode cX11_changes 52 = .ok (.iload_n 2, 1) := by decide +kernel
theorem dX11_changes_53 : decode cX11_changes 53 = .ok (.aload_n 0, 1) := by decide +kernel
theorem dX11_changes_54 : decode cX11_changes 54 = .ok (.getfield 48, 3) := by decide +kernel
theorem dX11_changes_57 : decode cX11_changes 57 = .ok (.getfield 248, 3) := by decide +kernel
theorem dX11_changes_60 : decode cX11_changes 60 = .ok (.if_icmp .ge 18, 3) := by decide +kernel
theorem dX11_changes_63 : decode cX11_changes 63 = .ok (.aload_n 0, 1) := by decide +kernel
theorem dX11_changes_64 : decode cX11_changes 64 = .ok (.getfield 48, 3) := by decide +kernel
theorem dX11_changes_67 : decode cX11_changes 67 = .ok (.getfield 249, 3) := by decide +kernel
theorem dX11_changes_70 : decode cX11_changes 70 = .ok (.iload_n 2, 1) := by decide +kernel
theorem dX11_changes_71 : decode cX11_changes 71 = .ok (.iaload, 1) := by decide +kernel
theorem dX11_changes_72 : decode cX11_changes 72 = .ok (.invokestatic 146, 3) := by decide +kernel
theorem dX11_changes_75 : decode cX11_changes 75 = .ok (.goto 4, 3) := by decide +kernel
theorem dX11_changes_78 : decode cX11_changes 78 = .ok (.iconst (-1), 1) := by decide +kernel
theorem dX11_changes_79 : decode cX11_changes 79 = .ok (.ireturn, 1) := by decide +kernel
theorem dX11_steps_0 : decode cX11_steps 0 = .ok (.iload_n 1, 1) := by decide +kernel
theorem dX11_steps_1 : decode cX11_steps 1 = .ok (.invokestatic 111, 3) := by decide +kernel
theorem dX11_steps_4 : decode cX11_steps 4 = .ok (.istore_n 3, 1) := by decide +kernel
theorem dX11_steps_5 : decode cX11_steps 5 = .ok (.iload_n 2, 1) := by decide +kernel
theorem dX11_steps_6 : decode cX11_steps 6 = .ok (.invokestatic 111, 3) := by decide +kernel
theorem dX11_steps_9 : decode cX11_steps 9 = .ok (.istore 4, 2) := by decide +kernel
theorem dX11_steps_11 : decode cX11_steps 11 = .ok (.iload_n 3, 1) := by decide +kernel
theorem dX11_steps_12 : decode cX11_steps 12 = .ok (.iconst (-1), 1) := by decide +kernel
theorem dX11_steps_13 : decode cX11_steps 13 = .ok (.if_icmp .eq 9, 3) := by decide +kernel
theorem dX11_steps_16 : decode cX11_steps 16 = .ok (.iload 4, 2) := by decide +kernel
theorem dX11_steps_18 : decode cX11_steps 18 = .ok (.iconst (-1), 1) := by decide +kernel
theorem dX11_steps_19 : decode cX11_steps 19 = .ok (.if_icmp .ne 7, 3) := by decide +kernel
theorem dX11_steps_22 : decode cX11_steps 22 = .ok (.iconst (-1), 1) := by decide +kernel
theorem dX11_steps_23 : decode cX11_steps 23 = .ok (.goto 20, 3) := by decide +kernel
theorem dX11_steps_26 : decode cX11_steps 26 = .ok (.aload_n 0, 1) := by decide +kernel
theorem dX11_steps_27 : decode cX11_steps 27 = .ok (.getfield 55, 3) := by decide +kernel
theorem dX11_steps_30 : decode cX11_steps 30 = .ok (.iload_n 3, 1) := by decide +kernel
theorem dX11_steps_31 : decode cX11_steps 31 = .ok (.iload 4, 2) := by decide +kernel
theorem dX11_steps_33 : decode cX11_steps 33 = .ok (.aload_n 0, 1) := by decide +kernel
theorem dX11_steps_34 : decode cX11_steps 34 = .ok (.getfield 10, 3) := by decide +kernel
theorem dX11_steps_37 : decode cX11_steps 37 = .ok (.getfield 161, 3) := by decide +kernel
theorem dX11_steps_40 : decode cX11_steps 40 = .ok (.invokevirtual 155, 3) := by decide +kernel
theorem dX11_steps_43 : decode cX11_steps 43 = .ok (.ireturn, 1) := by decide +kernel
theorem dX11_way_0 : decode cX11_way 0 = .ok (.iload_n 1, 1) := by decide +kernel
theorem dX11_way_1 : decode cX11_way 1 = .ok (.invokestatic 111, 3) := by decide +kernel
theorem dX11_way_4 : decode cX11_way 4 = .ok (.istore 4, 2) := by decide +kernel
theorem dX11_way_6 : decode cX11_way 6 = .ok (.iload_n 2, 1) := by decide +kernel
theorem dX11_way_7 : decode cX11_way 7 = .ok (.invokestatic 111, 3) := by decide +kernel
theorem dX11_way_10 : decode cX11_way 10 = .ok (.istore 5, 2) := by decide +kernel
theorem dX11_way_12 : decode cX11_way 12 = .ok (.iload 4, 2) := by decide +kernel
theorem dX11_way_14 : decode cX11_way 14 = .ok (.iconst (-1), 1) := by decide +kernel
theorem dX11_way_15 : decode cX11_way 15 = .ok (.if_icmp .eq 13, 3) := by decide +kernel
theorem dX11_way_18 : decode cX11_way 18 = .ok (.iload 5, 2) := by decide +kernel
theorem dX11_way_20 : decode cX11_way 20 = .ok (.iconst (-1), 1) := by decide +kernel
theorem dX11_way_21 : decode cX11_way 21 = .ok (.if_icmp .eq 7, 3) := by decide +kernel
theorem dX11_way_24 : decode cX11_way 24 = .ok (.iload_n 3, 1) := by decide +kernel
theorem dX11_way_25 : decode cX11_way 25 = .ok (.ifCond .ge 5, 3) := by decide +kernel
theorem dX11_way_28 : decode cX11_way 28 = .ok (.iconst (-1), 1) := by decide +kernel
theorem dX11_way_29 : decode cX11_way 29 = .ok (.ireturn, 1) := by decide +kernel
theorem dX11_way_30 : decode cX11_way 30 = .ok (.aload_n 0, 1) := by decide +kernel
theorem dX11_way_31 : decode cX11_way 31 = .ok (.getfield 55, 3) := by decide +kernel
theorem dX11_way_34 : decode cX11_way 34 = .ok (.iload 4, 2) := by decide +kernel
theorem dX11_way_36 : decode cX11_way 36 = .ok (.iload 5, 2) := by decide +kernel
theorem dX11_way_38 : decode cX11_way 38 = .ok (.aload_n 0, 1) := by decide +kernel
theorem dX11_way_39 : decode cX11_way 39 = .ok (.getfield 10, 3) := by decide +kernel
theorem dX11_way_42 : decode cX11_way 42 = .ok (.getfield 161, 3) := by decide +kernel
theorem dX11_way_45 : decode cX11_way 45 = .ok (.invokevirtual 155, 3) := by decide +kernel
theorem dX11_way_48 : decode cX11_way 48 = .ok (.istore 6, 2) := by decide +kernel
theorem dX11_way_50 : decode cX11_way 50 = .ok (.iload 6, 2) := by decide +kernel
theorem dX11_way_52 : decode cX11_way 52 = .ok (.iconst (-1), 1) := by decide +kernel
theorem dX11_way_53 : decode cX11_way 53 = .ok (.if_icmp .eq 9, 3) := by decide +kernel
theorem dX11_way_56 : decode cX11_way 56 = .ok (.iload_n 3, 1) := by decide +kernel
theorem dX11_way_57 : decode cX11_way 57 = .ok (.iload 6, 2) := by decide +kernel
theorem dX11_way_59 : decode cX11_way 59 = .ok (.if_icmp .le 5, 3) := by decide +kernel
theorem dX11_way_62 : decode cX11_way 62 = .ok (.iconst (-1), 1) := by decide +kernel
theorem dX11_way_63 : decode cX11_way 63 = .ok (.ireturn, 1) := by decide +kernel
theorem dX11_way_64 : decode cX11_way 64 = .ok (.aload_n 0, 1) := by decide +kernel
theorem dX11_way_65 : decode cX11_way 65 = .ok (.getfield 55, 3) := by decide +kernel
theorem dX11_way_68 : decode cX11_way 68 = .ok (.iload 5, 2) := by decide +kernel
theorem dX11_way_70 : decode cX11_way 70 = .ok (.aload_n 0, 1) := by decide +kernel
theorem dX11_way_71 : decode cX11_way 71 = .ok (.getfield 10, 3) := by decide +kernel
theorem dX11_way_74 : decode cX11_way 74 = .ok (.getfield 161, 3) := by decide +kernel
theorem dX11_way_77 : decode cX11_way 77 = .ok (.invokevirtual 252, 3) := by decide +kernel
theorem dX11_way_80 : decode cX11_way 80 = .ok (.astore 7, 2) := by decide +kernel
theorem dX11_way_82 : decode cX11_way 82 = .ok (.iconst 0, 1) := by decide +kernel
theorem dX11_way_83 : decode cX11_way 83 = .ok (.istore 8, 2) := by decide +kernel
theorem dX11_way_85 : decode cX11_way 85 = .ok (.iload 8, 2) := by decide +kernel
theorem dX11_way_87 : decode cX11_way 87 = .ok (.iload_n 3, 1) := by decide +kernel
theorem dX11_way_88 : decode cX11_way 88 = .ok (.if_icmp .ge 35, 3) := by decide +kernel
theorem dX11_way_91 : decode cX11_way 91 = .ok (.iinc 6 (-1), 3) := by decide +kernel
theorem dX11_way_94 : decode cX11_way 94 = .ok (.aload_n 0, 1) := by decide +kernel
theorem dX11_way_95 : decode cX11_way 95 = .ok (.getfield 48, 3) := by decide +kernel
theorem dX11_way_98 : decode cX11_way 98 = .ok (.iload 4, 2) := by decide +kernel
theorem dX11_way_100 : decode cX11_way 100 = .ok (.invokevirtual 245, 3) := by decide +kernel
theorem dX11_way_103 : decode cX11_way 103 = .ok (.aload_n 0, 1) := by decide +kernel
theorem dX11_way_104 : decode cX11_way 104 = .ok (.getfield 48, 3) := by decide +kernel
theorem dX11_way_107 : decode cX11_way 107 = .ok (.iconst (-1), 1) := by decide +kernel
theorem dX11_way_108 : decode cX11_way 108 = .ok (.aload 7, 2) := by decide +kernel
theorem dX11_way_110 : decode cX11_way 110 = .ok (.iload 6, 2) := by decide +kernel
theorem dX11_way_112 : decode cX11_way 112 = .ok (.invokevirtual 256, 3) := by decide +kernel
theorem dX11_way_115 : decode cX11_way 115 = .ok (.istore 4, 2) := by decide +kernel
theorem dX11_way_117 : decode cX11_way 117 = .ok (.iinc 8 1, 3) := by decide +kernel
theorem dX11_way_120 : decode cX11_way 120 = .ok (.goto (-35), 3) := by decide +kernel
theorem dX11_way_123 : decode cX11_way 123 = .ok (.iload 4, 2) := by decide +kernel
theorem dX11_way_125 : decode cX11_way 125 = .ok (.invokestatic 146, 3) := by decide +kernel
theorem dX11_way_128 : decode cX11_way 128 = .ok (.ireturn, 1) := by decide +kernel
theorem dX11_between_0 : decode cX11_between 0 = .ok (.aload_n 0, 1) := by decide +kernel
theorem dX11_between_1 : decode cX11_between 1 = .ok (.getfield 10, 3) := by decide +kernel
theorem dX11_between_4 : decode cX11_between 4 = .ok (.iload_n 1, 1) := by decide +kernel
theorem dX11_between_5 : decode cX11_between 5 = .ok (.invokevirtual 119, 3) := by decide +kernel
theorem dX11_between_8 : decode cX11_between 8 = .ok (.ifCond .eq 27, 3) := by decide +kernel
theorem dX11_between_11 : decode cX11_between 11 = .ok (.aload_n 0, 1) := by decide +kernel
theorem dX11_between_12 : decode cX11_between 12 = .ok (.getfield 10, 3) := by decide +kernel
theorem dX11_between_15 : decode cX11_between 15 = .ok (.aload_n 0, 1) := by decide +kernel
theorem dX11_between_16 : decode cX11_between 16 = .ok (.getfield 10, 3) := by decide +kernel
theorem dX11_between_19 : decode cX11_between 19 = .ok (.getfield 149, 3) := by decide +kernel
theorem dX11_between_22 : decode cX11_between 22 = .ok (.iload_n 1, 1) := by decide +kernel
theorem dX11_between_23 : decode cX11_between 23 = .ok (.iaload, 1) := by decide +kernel
theorem dX11_between_24 : decode cX11_between 24 = .ok (.invokevirtual 119, 3) := by decide +kernel
theorem dX11_between_27 : decode cX11_between 27 = .ok (.ifCond .eq 8, 3) := by decide +kernel
theorem dX11_between_30 : decode cX11_between 30 = .ok (.iload_n 2, 1) := by decide +kernel
theorem dX11_between_31 : decode cX11_between 31 = .ok (.iconst (-1), 1) := by decide +kernel
theorem dX11_between_32 : decode cX11_between 32 = .ok (.if_icmp .ge 5, 3) := by decide +kernel
theorem dX11_between_35 : decode cX11_between 35 = .ok (.iconst (-1), 1) := by decide +kernel
theorem dX11_between_36 : decode cX11_between 36 = .ok (.ireturn, 1) := by decide +kernel
theorem dX11_between_37 : decode cX11_between 37 = .ok (.aload_n 0, 1) := by decide +kernel
theorem dX11_between_38 : decode cX11_between 38 = .ok (.getfield 55, 3) := by decide +kernel
theorem dX11_between_41 : decode cX11_between 41 = .ok (.aload_n 0, 1) := by decide +kernel
theorem dX11_between_42 : decode cX11_between 42 = .ok (.getfield 10, 3) := by decide +kernel
theorem dX11_between_45 : decode cX11_between 45 = .ok (.getfield 143, 3) := by decide +kernel
theorem dX11_between_48 : decode cX11_between 48 = .ok (.iload_n 1, 1) := by decide +kernel
theorem dX11_between_49 : decode cX11_between 49 = .ok (.iaload, 1) := by decide +kernel
theorem dX11_between_50 : decode cX11_between 50 = .ok (.aload_n 0, 1) := by decide +kernel
theorem dX11_between_51 : decode cX11_between 51 = .ok (.getfield 10, 3) := by decide +kernel
theorem dX11_between_54 : decode cX11_between 54 = .ok (.getfield 122, 3) := by decide +kernel
theorem dX11_between_57 : decode cX11_between 57 = .ok (.iload_n 1, 1) := by decide +kernel
theorem dX11_between_58 : decode cX11_between 58 = .ok (.iaload, 1) := by decide +kernel
theorem dX11_between_59 : decode cX11_between 59 = .ok (.invokevirtual 252, 3) := by decide +kernel
theorem dX11_between_62 : decode cX11_between 62 = .ok (.astore_n 3, 1) := by decide +kernel
theorem dX11_between_63 : decode cX11_between 63 = .ok (.aload_n 3, 1) := by decide +kernel
theorem dX11_between_64 : decode cX11_between 64 = .ok (.iconst (-1), 1) := by decide +kernel
theorem dX11_between_65 : decode cX11_between 65 = .ok (.iconst 1, 1) := by decide +kernel
theorem dX11_between_66 : decode cX11_between 66 = .ok (.invokevirtual 260, 3) := by decide +kernel
theorem dX11_between_69 : decode cX11_between 69 = .ok (.aload_n 0, 1) := by decide +kernel
theorem dX11_between_70 : decode cX11_between 70 = .ok (.getfield 48, 3) := by decide +kernel
theorem dX11_between_73 : decode cX11_between 73 = .ok (.aload_n 0, 1) := by decide +kernel
theorem dX11_between_74 : decode cX11_between 74 = .ok (.getfield 10, 3) := by decide +kernel
theorem dX11_between_77 : decode cX11_between 77 = .ok (.getfield 143, 3) := by decide +kernel
theorem dX11_between_80 : decode cX11_between 80 = .ok (.aload_n 0, 1) := by decide +kernel
theorem dX11_between_81 : decode cX11_between 81 = .ok (.getfield 10, 3) := by decide +kernel
theorem dX11_between_84 : decode cX11_between 84 = .ok (.getfield 149, 3) := by decide +kernel
theorem dX11_between_87 : decode cX11_between 87 = .ok (.iload_n 1, 1) := by decide +kernel
theorem dX11_between_88 : decode cX11_between 88 = .ok (.iaload, 1) := by decide +kernel
theorem dX11_between_89 : decode cX11_between 89 = .ok (.iaload, 1) := by decide +kernel
theorem dX11_between_90 : decode cX11_between 90 = .ok (.invokevirtual 245, 3) := by decide +kernel
theorem dX11_between_93 : decode cX11_between 93 = .ok (.aload_n 0, 1) := by decide +kernel
theorem dX11_between_94 : decode cX11_between 94 = .ok (.getfield 48, 3) := by decide +kernel
theorem dX11_between_97 : decode cX11_between 97 = .ok (.iconst (-1), 1) := by decide +kernel
theorem dX11_between_98 : decode cX11_between 98 = .ok (.aload_n 3, 1) := by decide +kernel
theorem dX11_between_99 : decode cX11_between 99 = .ok (.iconst 1, 1) := by decide +kernel
theorem dX11_between_100 : decode cX11_between 100 = .ok (.invokevirtual 256, 3) := by decide +kernel
theorem dX11_between_103 : decode cX11_between 103 = .ok (.istore 4, 2) := by decide +kernel
theorem dX11_between_105 : decode cX11_between 105 = .ok (.iconst 0, 1) := by decide +kernel
theorem dX11_between_106 : decode cX11_between 106 = .ok (.istore 5, 2) := by decide +kernel
theorem dX11_between_108 : decode cX11_between 108 = .ok (.iconst 0, 1) := by decide +kernel
theorem dX11_between_109 : decode cX11_between 109 = .ok (.istore 6, 2) := by decide +kernel
theorem dX11_between_111 : decode cX11_between 111 = .ok (.iload 6, 2) := by decide +kernel
theorem dX11_between_113 : decode cX11_between 113 = .ok (.aload_n 0, 1) := by decide +kernel
theorem dX11_between_114 : decode cX11_between 114 = .ok (.getfield 48, 3) := by decide +kernel
theorem dX11_between_117 : decode cX11_between 117 = .ok (.getfield 248, 3) := by decide +kernel
theorem dX11_between_120 : decode cX11_between 120 = .ok (.if_icmp .ge 37, 3) := by decide +kernel
theorem dX11_between_123 : decode cX11_between 123 = .ok (.iload 4, 2) := by decide +kernel
theorem dX11_between_125 : decode cX11_between 125 = .ok (.iconst (-1), 1) := by decide +kernel
theorem dX11_between_126 : decode cX11_between 126 = .ok (.if_icmp .eq 31, 3) := by decide +kernel
theorem dX11_between_129 : decode cX11_between 129 = .ok (.iload 5, 2) := by decide +kernel
theorem dX11_between_131 : decode cX11_between 131 = .ok (.iload_n 2, 1) := by decide +kernel
theorem dX11_between_132 : decode cX11_between 132 = .ok (.if_icmp .eq 25, 3) := by decide +kernel
theorem dX11_between_135 : decode cX11_between 135 = .ok (.iinc 5 1, 3) := by decide +kernel
theorem dX11_between_138 : decode cX11_between 138 = .ok (.aload_n 0, 1) := by decide +kernel
theorem dX11_between_139 : decode cX11_between 139 = .ok (.getfield 48, 3) := by decide +kernel
theorem dX11_between_142 : decode cX11_between 142 = .ok (.iload 4, 2) := by decide +kernel
theorem dX11_between_144 : decode cX11_between 144 = .ok (.aload_n 3, 1) := by decide +kernel
theorem dX11_between_145 : decode cX11_between 145 = .ok (.iconst 1, 1) := by decide +kernel
theorem dX11_between_146 : decode cX11_between 146 = .ok (.invokevirtual 256, 3) := by decide +kernel
theorem dX11_between_149 : decode cX11_between 149 = .ok (.istore 4, 2) := by decide +kernel
theorem dX11_between_151 : decode cX11_between 151 = .ok (.iinc 6 1, 3) := by decide +kernel
theorem dX11_between_154 : decode cX11_between 154 = .ok (.goto (-43), 3) := by decide +kernel
theorem dX11_between_157 : decode cX11_between 157 = .ok (.iload_n 2, 1) := by decide +kernel
theorem dX11_between_158 : decode cX11_between 158 = .ok (.iconst (-1), 1) := by decide +kernel
theorem dX11_between_159 : decode cX11_between 159 = .ok (.if_icmp .ne 8, 3) := by decide +kernel
theorem dX11_between_162 : decode cX11_between 162 = .ok (.iload 5, 2) := by decide +kernel
theorem dX11_between_164 : decode cX11_between 164 = .ok (.goto 8, 3) := by decide +kernel
theorem dX11_between_167 : decode cX11_between 167 = .ok (.iload 4, 2) := by decide +kernel
theorem dX11_between_169 : decode cX11_between 169 = .ok (.invokestatic 146, 3) := by decide +kernel
theorem dX11_between_172 : decode cX11_between 172 = .ok (.ireturn, 1) := by decide +kernel
theorem dX11_judge_0 : decode cX11_judge 0 = .ok (.iconst (-1), 1) := by decide +kernel
theorem dX11_judge_1 : decode cX11_judge 1 = .ok (.istore_n 2, 1) := by decide +kernel
theorem dX11_judge_2 : decode cX11_judge 2 = .ok (.iconst 0, 1) := by decide +kernel
theorem dX11_judge_3 : decode cX11_judge 3 = .ok (.istore_n 3, 1) := by decide +kernel
theorem dX11_judge_4 : decode cX11_judge 4 = .ok (.aload_n 0, 1) := by decide +kernel
theorem dX11_judge_5 : decode cX11_judge 5 = .ok (.getfield 10, 3) := by decide +kernel
theorem dX11_judge_8 : decode cX11_judge 8 = .ok (.getfield 136, 3) := by decide +kernel
theorem dX11_judge_11 : decode cX11_judge 11 = .ok (.iconst 1, 1) := by decide +kernel
theorem dX11_judge_12 : decode cX11_judge 12 = .ok (.isub, 1) := by decide +kernel
theorem dX11_judge_13 : decode cX11_judge 13 = .ok (.istore 4, 2) := by decide +kernel
theorem dX11_judge_15 : decode cX11_judge 15 = .ok (.iload 4, 2) := by decide +kernel
theorem dX11_judge_17 : decode cX11_judge 17 = .ok (.ifCond .lt 38, 3) := by decide +kernel
theorem dX11_judge_20 : decode cX11_judge 20 = .ok (.aload_n 0, 1) := by decide +kernel
theorem dX11_judge_21 : decode cX11_judge 21 = .ok (.getfield 10, 3) := by decide +kernel
theorem dX11_judge_24 : decode cX11_judge 24 = .ok (.getfield 149, 3) := by decide +kernel
theorem dX11_judge_27 : decode cX11_judge 27 = .ok (.iload 4, 2) := by decide +kernel
theorem dX11_judge_29 : decode cX11_judge 29 = .ok (.iaload, 1) := by decide +kernel
theorem dX11_judge_30 : decode cX11_judge 30 = .ok (.iconst (-1), 1) := by decide +kernel
theorem dX11_judge_31 : decode cX11_judge 31 = .ok (.if_icmp .eq 18, 3) := by decide +kernel
theorem dX11_judge_34 : decode cX11_judge 34 = .ok (.aload_n 0, 1) := by decide +kernel
theorem dX11_judge_35 : decode cX11_judge 35 = .ok (.iload 4, 2) := by decide +kernel
theorem dX11_judge_37 : decode cX11_judge 37 = .ok (.invokevirtual 266, 3) := by decide +kernel
theorem dX11_judge_40 : decode cX11_judge 40 = .ok (.ifCond .ne 9, 3) := by decide +kernel
theorem dX11_judge_43 : decode cX11_judge 43 = .ok (.iload 4, 2) := by decide +kernel
theorem dX11_judge_45 : decode cX11_judge 45 = .ok (.istore_n 2, 1) := by decide +kernel
theorem dX11_judge_46 : decode cX11_judge 46 = .ok (.iinc 3 1, 3) := by decide +kernel
theorem dX11_judge_49 : decode cX11_judge 49 = .ok (.iinc 4 (-1), 3) := by decide +kernel
theorem dX11_judge_52 : decode cX11_judge 52 = .ok (.goto (-37), 3) := by decide +kernel
theorem dX11_judge_55 : decode cX11_judge 55 = .ok (.iload_n 1, 1) := by decide +kernel
theorem dX11_judge_56 : decode cX11_judge 56 = .ok (.ifCond .ne 5, 3) := by decide +kernel
theorem dX11_judge_59 : decode cX11_judge 59 = .ok (.iload_n 2, 1) := by decide +kernel
theorem dX11_judge_60 : decode cX11_judge 60 = .ok (.ireturn, 1) := by decide +kernel
theorem dX11_judge_61 : decode cX11_judge 61 = .ok (.iload_n 1, 1) := by decide +kernel
theorem dX11_judge_62 : decode cX11_judge 62 = .ok (.iconst 1, 1) := by decide +kernel
theorem dX11_judge_63 : decode cX11_judge 63 = .ok (.if_icmp .ne 7, 3) := by decide +kernel
theorem dX11_judge_66 : decode cX11_judge 66 = .ok (.iload_n 3, 1) := by decide +kernel
theorem dX11_judge_67 : decode cX11_judge 67 = .ok (.goto 4, 3) := by decide +kernel
theorem dX11_judge_70 : decode cX11_judge 70 = .ok (.iconst (-1), 1) := by decide +kernel
theorem dX11_judge_71 : decode cX11_judge 71 = .ok (.ireturn, 1) := by decide +kernel
theorem dX11_poor_0 : decode cX11_poor 0 = .ok (.iconst 0, 1) := by decide +kernel
theorem dX11_poor_1 : decode cX11_poor 1 = .ok (.istore_n 2, 1) := by decide +kernel
theorem dX11_poor_2 : decode cX11_poor 2 = .ok (.aload_n 0, 1) := by decide +kernel
theorem dX11_poor_3 : decode cX11_poor 3 = .ok (.getfield 10, 3) := by decide +kernel
theorem dX11_poor_6 : decode cX11_poor 6 = .ok (.iconst (-1), 1) := by decide +kernel
theorem dX11_poor_7 : decode cX11_poor 7 = .ok (.invokevirtual 269, 3) := by decide +kernel
theorem dX11_poor_10 : decode cX11_poor 10 = .ok (.istore_n 3, 1) := by decide +kernel
theorem dX11_poor_11 : decode cX11_poor 11 = .ok (.iconst 0, 1) := by decide +kernel
theorem dX11_poor_12 : decode cX11_poor 12 = .ok (.istore 4, 2) := by decide +kernel
theorem dX11_poor_14 : decode cX11_poor 14 = .ok (.iload 4, 2) := by decide +kernel
theorem dX11_poor_16 : decode cX11_poor 16 = .ok (.bipush 12, 2) := by decide +kernel
theorem dX11_poor_18 : decode cX11_poor 18 = .ok (.if_icmp .ge 71, 3) := by decide +kernel
theorem dX11_poor_21 : decode cX11_poor 21 = .ok (.iload_n 3, 1) := by decide +kernel
theorem dX11_poor_22 : decode cX11_poor 22 = .ok (.iconst (-1), 1) := by decide +kernel
theorem dX11_poor_23 : decode cX11_poor 23 = .ok (.if_icmp .eq 66, 3) := by decide +kernel
theorem dX11_poor_26 : decode cX11_poor 26 = .ok (.iconst 0, 1) := by decide +kernel
theorem dX11_poor_27 : decode cX11_poor 27 = .ok (.istore 5, 2) := by decide +kernel
theorem dX11_poor_29 : decode cX11_poor 29 = .ok (.iload 5, 2) := by decide +kernel
theorem dX11_poor_31 : decode cX11_poor 31 = .ok (.bipush 6, 2) := by decide +kernel
theorem dX11_poor_33 : decode cX11_poor 33 = .ok (.if_icmp .ge 41, 3) := by decide +kernel
theorem dX11_poor_36 : decode cX11_poor 36 = .ok (.aload_n 0, 1) := by decide +kernel
theorem dX11_poor_37 : decode cX11_poor 37 = .ok (.getfield 10, 3) := by decide +kernel
theorem dX11_poor_40 : decode cX11_poor 40 = .ok (.iload_n 3, 1) := by decide +kernel
theorem dX11_poor_41 : decode cX11_poor 41 = .ok (.iload 5, 2) := by decide +kernel
theorem dX11_poor_43 : decode cX11_poor 43 = .ok (.invokevirtual 272, 3) := by decide +kernel
theorem dX11_poor_46 : decode cX11_poor 46 = .ok (.ifCond .ne 6, 3) := by decide +kernel
theorem dX11_poor_49 : decode cX11_poor 49 = .ok (.goto 19, 3) := by decide +kernel
theorem dX11_poor_52 : decode cX11_poor 52 = .ok (.iload_n 2, 1) := by decide +kernel
theorem dX11_poor_53 : decode cX11_poor 53 = .ok (.iload_n 1, 1) := by decide +kernel
theorem dX11_poor_54 : decode cX11_poor 54 = .ok (.if_icmp .ne 11, 3) := by decide +kernel
theorem dX11_poor_57 : decode cX11_poor 57 = .ok (.iload_n 3, 1) := by decide +kernel
theorem dX11_poor_58 : decode cX11_poor 58 = .ok (.bipush 6, 2) := by decide +kernel
theorem dX11_poor_60 : decode cX11_poor 60 = .ok (.imul, 1) := by decide +kernel
theorem dX11_poor_61 : decode cX11_poor 61 = .ok (.iload 5, 2) := by decide +kernel
theorem dX11_poor_63 : decode cX11_poor 63 = .ok (.iadd, 1) := by decide +kernel
theorem dX11_poor_64 : decode cX11_poor 64 = .ok (.ireturn, 1) := by decide +kernel
theorem dX11_poor_65 : decode cX11_poor 65 = .ok (.iinc 2 1, 3) := by decide +kernel
theorem dX11_poor_68 : decode cX11_poor 68 = .ok (.iinc 5 1, 3) := by decide +kernel
theorem dX11_poor_71 : decode cX11_poor 71 = .ok (.goto (-42), 3) := by decide +kernel
theorem dX11_poor_74 : decode cX11_poor 74 = .ok (.aload_n 0, 1) := by decide +kernel
theorem dX11_poor_75 : decode cX11_poor 75 = .ok (.getfield 10, 3) := by decide +kernel
theorem dX11_poor_78 : decode cX11_poor 78 = .ok (.iload_n 3, 1) := by decide +kernel
theorem dX11_poor_79 : decode cX11_poor 79 = .ok (.invokevirtual 269, 3) := by decide +kernel
theorem dX11_poor_82 : decode cX11_poor 82 = .ok (.istore_n 3, 1) := by decide +kernel
theorem dX11_poor_83 : decode cX11_poor 83 = .ok (.iinc 4 1, 3) := by decide +kernel
theorem dX11_poor_86 : decode cX11_poor 86 = .ok (.goto (-72), 3) := by decide +kernel
theorem dX11_poor_89 : decode cX11_poor 89 = .ok (.iload_n 1, 1) := by decide +kernel
theorem dX11_poor_90 : decode cX11_poor 90 = .ok (.iconst (-1), 1) := by decide +kernel
theorem dX11_poor_91 : decode cX11_poor 91 = .ok (.if_icmp .ne 7, 3) := by decide +kernel
theorem dX11_poor_94 : decode cX11_poor 94 = .ok (.iload_n 2, 1) := by decide +kernel
theorem dX11_poor_95 : decode cX11_poor 95 = .ok (.goto 4, 3) := by decide +kernel
theorem dX11_poor_98 : decode cX11_poor 98 = .ok (.iconst (-1), 1) := by decide +kernel
theorem dX11_poor_99 : decode cX11_poor 99 = .ok (.ireturn, 1) := by decide +kernel
theorem dX11_first_0 : decode cX11_first 0 = .ok (.aload_n 0, 1) := by decide +kernel
theorem dX11_first_1 : decode cX11_first 1 = .ok (.getfield 10, 3) := by decide +kernel
theorem dX11_first_4 : decode cX11_first 4 = .ok (.iload_n 1, 1) := by decide +kernel
theorem dX11_first_5 : decode cX11_first 5 = .ok (.invokevirtual 276, 3) := by decide +kernel
theorem dX11_first_8 : decode cX11_first 8 = .ok (.istore_n 3, 1) := by decide +kernel
theorem dX11_first_9 : decode cX11_first 9 = .ok (.iload_n 3, 1) := by decide +kernel
theorem dX11_first_10 : decode cX11_first 10 = .ok (.ifCond .ne 5, 3) := by decide +kernel
theorem dX11_first_13 : decode cX11_first 13 = .ok (.iconst (-1), 1) := by decide +kernel
theorem dX11_first_14 : decode cX11_first 14 = .ok (.ireturn, 1) := by decide +kernel
theorem dX11_first_15 : decode cX11_first 15 = .ok (.aload_n 0, 1) := by decide +kernel
theorem dX11_first_16 : decode cX11_first 16 = .ok (.getfield 55, 3) := by decide +kernel
theorem dX11_first_19 : decode cX11_first 19 = .ok (.iload_n 3, 1) := by decide +kernel
theorem dX11_first_20 : decode cX11_first 20 = .ok (.invokevirtual 279, 3) := by decide +kernel
theorem dX11_first_23 : decode cX11_first 23 = .ok (.aload_n 0, 1) := by decide +kernel
theorem dX11_first_24 : decode cX11_first 24 = .ok (.getfield 55, 3) := by decide +kernel
theorem dX11_first_27 : decode cX11_first 27 = .ok (.getfield 282, 3) := by decide +kernel
theorem dX11_first_30 : decode cX11_first 30 = .ok (.iconst (-1), 1) := by decide +kernel
theorem dX11_first_31 : decode cX11_first 31 = .ok (.if_icmp .ne 5, 3) := by decide +kernel
theorem dX11_first_34 : decode cX11_first 34 = .ok (.iconst (-1), 1) := by decide +kernel
theorem dX11_first_35 : decode cX11_first 35 = .ok (.ireturn, 1) := by decide +kernel
theorem dX11_first_36 : decode cX11_first 36 = .ok (.iload_n 2, 1) := by decide +kernel
theorem dX11_first_37 : decode cX11_first 37 = .ok (.tableswitch 54 0 2 #[27, 35, 43], 27) := by decide +kernel
theorem dX11_first_64 : decode cX11_first 64 = .ok (.aload_n 0, 1) := by decide +kernel
theorem dX11_first_65 : decode cX11_first 65 = .ok (.getfield 55, 3) := by decide +kernel
theorem dX11_first_68 : decode cX11_first 68 = .ok (.getfield 282, 3) := by decide +kernel
theorem dX11_first_71 : decode cX11_first 71 = .ok (.ireturn, 1) := by decide +kernel
theorem dX11_first_72 : decode cX11_first 72 = .ok (.aload_n 0, 1) := by decide +kernel
theorem dX11_first_73 : decode cX11_first 73 = .ok (.getfield 55, 3) := by decide +kernel
theorem dX11_first_76 : decode cX11_first 76 = .ok (.getfield 285, 3) := by decide +kernel
theorem dX11_first_79 : decode cX11_first 79 = .ok (.ireturn, 1) := by decide +kernel
theorem dX11_first_80 : decode cX11_first 80 = .ok (.aload_n 0, 1) := by decide +kernel
theorem dX11_first_81 : decode cX11_first 81 = .ok (.getfield 55, 3) := by decide +kernel
theorem dX11_first_84 : decode cX11_first 84 = .ok (.getfield 288, 3) := by decide +kernel
theorem dX11_first_87 : decode cX11_first 87 = .ok (.invokestatic 146, 3) := by decide +kernel
theorem dX11_first_90 : decode cX11_first 90 = .ok (.ireturn, 1) := by decide +kernel
theorem dX11_first_91 : decode cX11_first 91 = .ok (.iconst (-1), 1) := by decide +kernel
theorem dX11_first_92 : decode cX11_first 92 = .ok (.ireturn, 1) := by decide +kernel
theorem dX11_lines_0 : decode cX11_lines 0 = .ok (.aload_n 0, 1) := by decide +kernel
theorem dX11_lines_1 : decode cX11_lines 1 = .ok (.getfield 10, 3) := by decide +kernel
theorem dX11_lines_4 : decode cX11_lines 4 = .ok (.iload_n 1, 1) := by decide +kernel
theorem dX11_lines_5 : decode cX11_lines 5 = .ok (.invokevirtual 276, 3) := by decide +kernel
theorem dX11_lines_8 : decode cX11_lines 8 = .ok (.istore_n 3, 1) := by decide +kernel
theorem dX11_lines_9 : decode cX11_lines 9 = .ok (.iload_n 3, 1) := by decide +kernel
theorem dX11_lines_10 : decode cX11_lines 10 = .ok (.invokestatic 291, 3) := by decide +kernel
theorem dX11_lines_13 : decode cX11_lines 13 = .ok (.istore 4, 2) := by decide +kernel
theorem dX11_lines_15 : decode cX11_lines 15 = .ok (.iload 4, 2) := by decide +kernel
theorem dX11_lines_17 : decode cX11_lines 17 = .ok (.ifCond .eq 22, 3) := by decide +kernel
theorem dX11_lines_20 : decode cX11_lines 20 = .ok (.iload 4, 2) := by decide +kernel
theorem dX11_lines_22 : decode cX11_lines 22 = .ok (.bipush 6, 2) := by decide +kernel
theorem dX11_lines_24 : decode cX11_lines 24 = .ok (.if_icmp .gt 15, 3) := by decide +kernel
theorem dX11_lines_27 : decode cX11_lines 27 = .ok (.iload_n 2, 1) := by decide +kernel
theorem dX11_lines_28 : decode cX11_lines 28 = .ok (.ifCond .lt 11, 3) := by decide +kernel
theorem dX11_lines_31 : decode cX11_lines 31 = .ok (.iload_n 2, 1) := by decide +kernel
theorem dX11_lines_32 : decode cX11_lines 32 = .ok (.iconst 1, 1) := by decide +kernel
theorem dX11_lines_33 : decode cX11_lines 33 = .ok (.iload 4, 2) := by decide +kernel
theorem dX11_lines_35 : decode cX11_lines 35 = .ok (.iadd, 1) := by decide +kernel
theorem dX11_lines_36 : decode cX11_lines 36 = .ok (.if_icmp .le 5, 3) := by decide +kernel
theorem dX11_lines_39 : decode cX11_lines 39 = .ok (.iconst (-1), 1) := by decide +kernel
theorem dX11_lines_40 : decode cX11_lines 40 = .ok (.ireturn, 1) := by decide +kernel
theorem dX11_lines_41 : decode cX11_lines 41 = .ok (.aload_n 0, 1) := by decide +kernel
theorem dX11_lines_42 : decode cX11_lines 42 = .ok (.getfield 62, 3) := by decide +kernel
theorem dX11_lines_45 : decode cX11_lines 45 = .ok (.iload_n 3, 1) := by decide +kernel
theorem dX11_lines_46 : decode cX11_lines 46 = .ok (.aload_n 0, 1) := by decide +kernel
theorem dX11_lines_47 : decode cX11_lines 47 = .ok (.getfield 10, 3) := by decide +kernel
theorem dX11_lines_50 : decode cX11_lines 50 = .ok (.getfield 296, 3) := by decide +kernel
theorem dX11_lines_53 : decode cX11_lines 53 = .ok (.invokevirtual 299, 3) := by decide +kernel
theorem dX11_lines_56 : decode cX11_lines 56 = .ok (.ifCond .ne 123, 3) := by decide +kernel
theorem dX11_lines_59 : decode cX11_lines 59 = .ok (.aload_n 0, 1) := by decide +kernel
theorem dX11_lines_60 : decode cX11_lines 60 = .ok (.getfield 62, 3) := by decide +kernel
theorem dX11_lines_63 : decode cX11_lines 63 = .ok (.iload_n 3, 1) := by decide +kernel
theorem dX11_lines_64 : decode cX11_lines 64 = .ok (.aload_n 0, 1) := by decide +kernel
theorem dX11_lines_65 : decode cX11_lines 65 = .ok (.getfield 10, 3) := by decide +kernel
theorem dX11_lines_68 : decode cX11_lines 68 = .ok (.getfield 296, 3) := by decide +kernel
theorem dX11_lines_71 : decode cX11_lines 71 = .ok (.invokevirtual 302, 3) := by decide +kernel
theorem dX11_lines_74 : decode cX11_lines 74 = .ok (.iconst 0, 1) := by decide +kernel
theorem dX11_lines_75 : decode cX11_lines 75 = .ok (.istore 5, 2) := by decide +kernel
theorem dX11_lines_77 : decode cX11_lines 77 = .ok (.iload 5, 2) := by decide +kernel
theorem dX11_lines_79 : decode cX11_lines 79 = .ok (.iload 4, 2) := by decide +kernel
theorem dX11_lines_81 : decode cX11_lines 81 = .ok (.iload 4, 2) := by decide +kernel
theorem dX11_lines_83 : decode cX11_lines 83 = .ok (.imul, 1) := by decide +kernel
theorem dX11_lines_84 : decode cX11_lines 84 = .ok (.if_icmp .ge 88, 3) := by decide +kernel
theorem dX11_lines_87 : decode cX11_lines 87 = .ok (.aload_n 0, 1) := by decide +kernel
theorem dX11_lines_88 : decode cX11_lines 88 = .ok (.getfield 10, 3) := by decide +kernel
theorem dX11_lines_91 : decode cX11_lines 91 = .ok (.getfield 143, 3) := by decide +kernel
theorem dX11_lines_94 : decode cX11_lines 94 = .ok (.aload_n 0, 1) := by decide +kernel
theorem dX11_lines_95 : decode cX11_lines 95 = .ok (.getfield 62, 3) := by decide +kernel
theorem dX11_lines_98 : decode cX11_lines 98 = .ok (.iload 5, 2) := by decide +kernel
theorem dX11_lines_100 : decode cX11_lines 100 = .ok (.iload 4, 2) := by decide +kernel
theorem dX11_lines_102 : decode cX11_lines 102 = .ok (.irem, 1) := by decide +kernel
theorem dX11_lines_103 : decode cX11_lines 103 = .ok (.invokevirtual 304, 3) := by decide +kernel
theorem dX11_lines_106 : decode cX11_lines 106 = .ok (.iaload, 1) := by decide +kernel
theorem dX11_lines_107 : decode cX11_lines 107 = .ok (.istore 6, 2) := by decide +kernel
theorem dX11_lines_109 : decode cX11_lines 109 = .ok (.aload_n 0, 1) := by decide +kernel
theorem dX11_lines_110 : decode cX11_lines 110 = .ok (.getfield 10, 3) := by decide +kernel
theorem dX11_lines_113 : decode cX11_lines 113 = .ok (.getfield 143, 3) := by decide +kernel
theorem dX11_lines_116 : decode cX11_lines 116 = .ok (.aload_n 0, 1) := by decide +kernel
theorem dX11_lines_117 : decode cX11_lines 117 = .ok (.getfield 62, 3) := by decide +kernel
theorem dX11_lines_120 : decode cX11_lines 120 = .ok (.iload 5, 2) := by decide +kernel
theorem dX11_lines_122 : decode cX11_lines 122 = .ok (.iload 4, 2) := by decide +kernel
theorem dX11_lines_124 : decode cX11_lines 124 = .ok (.idiv, 1) := by decide +kernel
theorem dX11_lines_125 : decode cX11_lines 125 = .ok (.invokevirtual 304, 3) := by decide +kernel
theorem dX11_lines_128 : decode cX11_lines 128 = .ok (.iaload, 1) := by decide +kernel
theorem dX11_lines_129 : decode cX11_lines 129 = .ok (.istore 7, 2) := by decide +kernel
theorem dX11_lines_131 : decode cX11_lines 131 = .ok (.aload_n 0, 1) := by decide +kernel
theorem dX11_lines_132 : decode cX11_lines 132 = .ok (.getfield 62, 3) := by decide +kernel
theorem dX11_lines_135 : decode cX11_lines 135 = .ok (.iload 5, 2) := by decide +kernel
theorem dX11_lines_137 : decode cX11_lines 137 = .ok (.iload 4, 2) := by decide +kernel
theorem dX11_lines_139 : decode cX11_lines 139 = .ok (.irem, 1) := by decide +kernel
theorem dX11_lines_140 : decode cX11_lines 140 = .ok (.iload 5, 2) := by decide +kernel
theorem dX11_lines_142 : decode cX11_lines 142 = .ok (.iload 4, 2) := by decide +kernel
theorem dX11_lines_144 : decode cX11_lines 144 = .ok (.idiv, 1) := by decide +kernel
theorem dX11_lines_145 : decode cX11_lines 145 = .ok (.aload_n 0, 1) := by decide +kernel
theorem dX11_lines_146 : decode cX11_lines 146 = .ok (.getfield 55, 3) := by decide +kernel
theorem dX11_lines_149 : decode cX11_lines 149 = .ok (.iload 6, 2) := by decide +kernel
theorem dX11_lines_151 : decode cX11_lines 151 = .ok (.iload 7, 2) := by decide +kernel
theorem dX11_lines_153 : decode cX11_lines 153 = .ok (.aload_n 0, 1) := by decide +kernel
theorem dX11_lines_154 : decode cX11_lines 154 = .ok (.getfield 10, 3) := by decide +kernel
theorem dX11_lines_157 : decode cX11_lines 157 = .ok (.getfield 161, 3) := by decide +kernel
theorem dX11_lines_160 : decode cX11_lines 160 = .ok (.invokevirtual 155, 3) := by decide +kernel
theorem dX11_lines_163 : decode cX11_lines 163 = .ok (.invokevirtual 307, 3) := by decide +kernel
theorem dX11_lines_166 : decode cX11_lines 166 = .ok (.iinc 5 1, 3) := by decide +kernel
theorem dX11_lines_169 : decode cX11_lines 169 = .ok (.goto (-92), 3) := by decide +kernel
theorem dX11_lines_172 : decode cX11_lines 172 = .ok (.aload_n 0, 1) := by decide +kernel
theorem dX11_lines_173 : decode cX11_lines 173 = .ok (.getfield 62, 3) := by decide +kernel
theorem dX11_lines_176 : decode cX11_lines 176 = .ok (.invokevirtual 311, 3) := by decide +kernel
theorem dX11_lines_179 : decode cX11_lines 179 = .ok (.aload_n 0, 1) := by decide +kernel
theorem dX11_lines_180 : decode cX11_lines 180 = .ok (.getfield 62, 3) := by decide +kernel
theorem dX11_lines_183 : decode cX11_lines 183 = .ok (.getfield 314, 3) := by decide +kernel
theorem dX11_lines_186 : decode cX11_lines 186 = .ok (.ifCond .ne 5, 3) := by decide +kernel
theorem dX11_lines_189 : decode cX11_lines 189 = .ok (.iconst (-1), 1) := by decide +kernel
theorem dX11_lines_190 : decode cX11_lines 190 = .ok (.ireturn, 1) := by decide +kernel
theorem dX11_lines_191 : decode cX11_lines 191 = .ok (.iload_n 2, 1) := by decide +kernel
theorem dX11_lines_192 : decode cX11_lines 192 = .ok (.iconst 2, 1) := by decide +kernel
theorem dX11_lines_193 : decode cX11_lines 193 = .ok (.if_icmp .ge 25, 3) := by decide +kernel
theorem dX11_lines_196 : decode cX11_lines 196 = .ok (.iload_n 2, 1) := by decide +kernel
theorem dX11_lines_197 : decode cX11_lines 197 = .ok (.ifCond .ne 13, 3) := by decide +kernel
theorem dX11_lines_200 : decode cX11_lines 200 = .ok (.aload_n 0, 1) := by decide +kernel
theorem dX11_lines_201 : decode cX11_lines 201 = .ok (.getfield 62, 3) := by decide +kernel
theorem dX11_lines_204 : decode cX11_lines 204 = .ok (.getfield 317, 3) := by decide +kernel
theorem dX11_lines_207 : decode cX11_lines 207 = .ok (.goto 10, 3) := by decide +kernel
theorem dX11_lines_210 : decode cX11_lines 210 = .ok (.aload_n 0, 1) := by decide +kernel
theorem dX11_lines_211 : decode cX11_lines 211 = .ok (.getfield 62, 3) := by decide +kernel
theorem dX11_lines_214 : decode cX11_lines 214 = .ok (.getfield 314, 3) := by decide +kernel
theorem dX11_lines_217 : decode cX11_lines 217 = .ok (.ireturn, 1) := by decide +kernel
theorem dX11_lines_218 : decode cX11_lines 218 = .ok (.aload_n 0, 1) := by decide +kernel
theorem dX11_lines_219 : decode cX11_lines 219 = .ok (.getfield 62, 3) := by decide +kernel
theorem dX11_lines_222 : decode cX11_lines 222 = .ok (.iload_n 2, 1) := by decide +kernel
theorem dX11_lines_223 : decode cX11_lines 223 = .ok (.iconst 2, 1) := by decide +kernel
theorem dX11_lines_224 : decode cX11_lines 224 = .ok (.isub, 1) := by decide +kernel
theorem dX11_lines_225 : decode cX11_lines 225 = .ok (.invokevirtual 318, 3) := by decide +kernel
theorem dX11_lines_228 : decode cX11_lines 228 = .ok (.ireturn, 1) := by decide +kernel
theorem dX11_odds_0 : decode cX11_odds 0 = .ok (.iload_n 2, 1) := by decide +kernel
theorem dX11_odds_1 : decode cX11_odds 1 = .ok (.invokestatic 111, 3) := by decide +kernel
theorem dX11_odds_4 : decode cX11_odds 4 = .ok (.istore 4, 2) := by decide +kernel
theorem dX11_odds_6 : decode cX11_odds 6 = .ok (.iload 4, 2) := by decide +kernel
theorem dX11_odds_8 : decode cX11_odds 8 = .ok (.iconst (-1), 1) := by decide +kernel
theorem dX11_odds_9 : decode cX11_odds 9 = .ok (.if_icmp .eq 18, 3) := by decide +kernel
theorem dX11_odds_12 : decode cX11_odds 12 = .ok (.aload_n 0, 1) := by decide +kernel
theorem dX11_odds_13 : decode cX11_odds 13 = .ok (.getfield 71, 3) := by decide +kernel
theorem dX11_odds_16 : decode cX11_odds 16 = .ok (.iload_n 1, 1) := by decide +kernel
theorem dX11_odds_17 : decode cX11_odds 17 = .ok (.invokestatic 111, 3) := by decide +kernel
theorem dX11_odds_20 : decode cX11_odds 20 = .ok (.iload_n 3, 1) := by decide +kernel
theorem dX11_odds_21 : decode cX11_odds 21 = .ok (.invokevirtual 321, 3) := by decide +kernel
theorem dX11_odds_24 : decode cX11_odds 24 = .ok (.ifCond .ne 7, 3) := by decide +kernel
theorem dX11_odds_27 : decode cX11_odds 27 = .ok (.ldc2_w 324, 3) := by decide +kernel
theorem dX11_odds_30 : decode cX11_odds 30 = .ok (.lreturn, 1) := by decide +kernel
theorem dX11_odds_31 : decode cX11_odds 31 = .ok (.aload_n 0, 1) := by decide +kernel
theorem dX11_odds_32 : decode cX11_odds 32 = .ok (.getfield 71, 3) := by decide +kernel
theorem dX11_odds_35 : decode cX11_odds 35 = .ok (.getfield 326, 3) := by decide +kernel
theorem dX11_odds_38 : decode cX11_odds 38 = .ok (.iload 4, 2) := by decide +kernel
theorem dX11_odds_40 : decode cX11_odds 40 = .ok (.laload, 1) := by decide +kernel
theorem dX11_odds_41 : decode cX11_odds 41 = .ok (.lreturn, 1) := by decide +kernel
theorem dX11_likely_0 : decode cX11_likely 0 = .ok (.aload_n 0, 1) := by decide +kernel
theorem dX11_likely_1 : decode cX11_likely 1 = .ok (.getfield 71, 3) := by decide +kernel
theorem dX11_likely_4 : decode cX11_likely 4 = .ok (.iload_n 1, 1) := by decide +kernel
theorem dX11_likely_5 : decode cX11_likely 5 = .ok (.invokestatic 111, 3) := by decide +kernel
theorem dX11_likely_8 : decode cX11_likely 8 = .ok (.iload_n 2, 1) := by decide +kernel
theorem dX11_likely_9 : decode cX11_likely 9 = .ok (.invokevirtual 321, 3) := by decide +kernel
theorem dX11_likely_12 : decode cX11_likely 12 = .ok (.ifCond .ne 5, 3) := by decide +kernel
theorem dX11_likely_15 : decode cX11_likely 15 = .ok (.iconst (-1), 1) := by decide +kernel
theorem dX11_likely_16 : decode cX11_likely 16 = .ok (.ireturn, 1) := by decide +kernel
theorem dX11_likely_17 : decode cX11_likely 17 = .ok (.aload_n 0, 1) := by decide +kernel
theorem dX11_likely_18 : decode cX11_likely 18 = .ok (.getfield 71, 3) := by decide +kernel
theorem dX11_likely_21 : decode cX11_likely 21 = .ok (.invokevirtual 330, 3) := by decide +kernel
theorem dX11_likely_24 : decode cX11_likely 24 = .ok (.invokestatic 146, 3) := by decide +kernel
theorem dX11_likely_27 : decode cX11_likely 27 = .ok (.ireturn, 1) := by decide +kernel
theorem dX11_tastings_0 : decode cX11_tastings 0 = .ok (.aload_n 0, 1) := by decide +kernel
theorem dX11_tastings_1 : decode cX11_tastings 1 = .ok (.getfield 10, 3) := by decide +kernel
theorem dX11_tastings_4 : decode cX11_tastings 4 = .ok (.iload_n 1, 1) := by decide +kernel
theorem dX11_tastings_5 : decode cX11_tastings 5 = .ok (.invokevirtual 276, 3) := by decide +kernel
theorem dX11_tastings_8 : decode cX11_tastings 8 = .ok (.istore_n 3, 1) := by decide +kernel
theorem dX11_tastings_9 : decode cX11_tastings 9 = .ok (.iload_n 3, 1) := by decide +kernel
theorem dX11_tastings_10 : decode cX11_tastings 10 = .ok (.ifCond .eq 12, 3) := by decide +kernel
theorem dX11_tastings_13 : decode cX11_tastings 13 = .ok (.iload_n 2, 1) := by decide +kernel
theorem dX11_tastings_14 : decode cX11_tastings 14 = .ok (.ifCond .lt 8, 3) := by decide +kernel
theorem dX11_tastings_17 : decode cX11_tastings 17 = .ok (.iload_n 2, 1) := by decide +kernel
theorem dX11_tastings_18 : decode cX11_tastings 18 = .ok (.iconst 3, 1) := by decide +kernel
theorem dX11_tastings_19 : decode cX11_tastings 19 = .ok (.if_icmp .le 5, 3) := by decide +kernel
theorem dX11_tastings_22 : decode cX11_tastings 22 = .ok (.iconst (-1), 1) := by decide +kernel
theorem dX11_tastings_23 : decode cX11_tastings 23 = .ok (.ireturn, 1) := by decide +kernel
theorem dX11_tastings_24 : decode cX11_tastings 24 = .ok (.aload_n 0, 1) := by decide +kernel
theorem dX11_tastings_25 : decode cX11_tastings 25 = .ok (.getfield 10, 3) := by decide +kernel
theorem dX11_tastings_28 : decode cX11_tastings 28 = .ok (.iload_n 3, 1) := by decide +kernel
theorem dX11_tastings_29 : decode cX11_tastings 29 = .ok (.bipush 63, 2) := by decide +kernel
theorem dX11_tastings_31 : decode cX11_tastings 31 = .ok (.invokevirtual 334, 3) := by decide +kernel
theorem dX11_tastings_34 : decode cX11_tastings 34 = .ok (.istore 4, 2) := by decide +kernel
theorem dX11_tastings_36 : decode cX11_tastings 36 = .ok (.bipush 7, 2) := by decide +kernel
theorem dX11_tastings_38 : decode cX11_tastings 38 = .ok (.istore 5, 2) := by decide +kernel
theorem dX11_tastings_40 : decode cX11_tastings 40 = .ok (.iconst 0, 1) := by decide +kernel
theorem dX11_tastings_41 : decode cX11_tastings 41 = .ok (.istore 6, 2) := by decide +kernel
theorem dX11_tastings_43 : decode cX11_tastings 43 = .ok (.iconst 0, 1) := by decide +kernel
theorem dX11_tastings_44 : decode cX11_tastings 44 = .ok (.istore 7, 2) := by decide +kernel
theorem dX11_tastings_46 : decode cX11_tastings 46 = .ok (.iconst 0, 1) := by decide +kernel
theorem dX11_tastings_47 : decode cX11_tastings 47 = .ok (.istore 8, 2) := by decide +kernel
theorem dX11_tastings_49 : decode cX11_tastings 49 = .ok (.iload 8, 2) := by decide +kernel
theorem dX11_tastings_51 : decode cX11_tastings 51 = .ok (.bipush 64, 2) := by decide +kernel
theorem dX11_tastings_53 : decode cX11_tastings 53 = .ok (.if_icmp .ge 78, 3) := by decide +kernel
theorem dX11_tastings_56 : decode cX11_tastings 56 = .ok (.iload 8, 2) := by decide +kernel
theorem dX11_tastings_58 : decode cX11_tastings 58 = .ok (.invokestatic 291, 3) := by decide +kernel
theorem dX11_tastings_61 : decode cX11_tastings 61 = .ok (.istore 9, 2) := by decide +kernel
theorem dX11_tastings_63 : decode cX11_tastings 63 = .ok (.iload 9, 2) := by decide +kernel
theorem dX11_tastings_65 : decode cX11_tastings 65 = .ok (.iload 5, 2) := by decide +kernel
theorem dX11_tastings_67 : decode cX11_tastings 67 = .ok (.if_icmp .gt 58, 3) := by decide +kernel
theorem dX11_tastings_70 : decode cX11_tastings 70 = .ok (.aload_n 0, 1) := by decide +kernel
theorem dX11_tastings_71 : decode cX11_tastings 71 = .ok (.getfield 10, 3) := by decide +kernel
theorem dX11_tastings_74 : decode cX11_tastings 74 = .ok (.iload_n 3, 1) := by decide +kernel
theorem dX11_tastings_75 : decode cX11_tastings 75 = .ok (.iload 8, 2) := by decide +kernel
theorem dX11_tastings_77 : decode cX11_tastings 77 = .ok (.invokevirtual 334, 3) := by decide +kernel
theorem dX11_tastings_80 : decode cX11_tastings 80 = .ok (.iload 4, 2) := by decide +kernel
theorem dX11_tastings_82 : decode cX11_tastings 82 = .ok (.if_icmp .eq 6, 3) := by decide +kernel
theorem dX11_tastings_85 : decode cX11_tastings 85 = .ok (.goto 40, 3) := by decide +kernel
theorem dX11_tastings_88 : decode cX11_tastings 88 = .ok (.iload 9, 2) := by decide +kernel
theorem dX11_tastings_90 : decode cX11_tastings 90 = .ok (.iload 5, 2) := by decide +kernel
theorem dX11_tastings_92 : decode cX11_tastings 92 = .ok (.if_icmp .ge 8, 3) := by decide +kernel
theorem dX11_tastings_95 : decode cX11_tastings 95 = .ok (.iload 8, 2) := by decide +kernel
theorem dX11_tastings_97 : decode cX11_tastings 97 = .ok (.goto 5, 3) := by decide +kernel
theorem dX11_tastings_100 : decode cX11_tastings 100 = .ok (.iload 6, 2) := by decide +kernel
theorem dX11_tastings_102 : decode cX11_tastings 102 = .ok (.istore 6, 2) := by decide +kernel
theorem dX11_tastings_104 : decode cX11_tastings 104 = .ok (.iload 9, 2) := by decide +kernel
theorem dX11_tastings_106 : decode cX11_tastings 106 = .ok (.iload 5, 2) := by decide +kernel
theorem dX11_tastings_108 : decode cX11_tastings 108 = .ok (.if_icmp .ge 7, 3) := by decide +kernel
theorem dX11_tastings_111 : decode cX11_tastings 111 = .ok (.iconst 1, 1) := by decide +kernel
theorem dX11_tastings_112 : decode cX11_tastings 112 = .ok (.goto 7, 3) := by decide +kernel
theorem dX11_tastings_115 : decode cX11_tastings 115 = .ok (.iload 7, 2) := by decide +kernel
theorem dX11_tastings_117 : decode cX11_tastings 117 = .ok (.iconst 1, 1) := by decide +kernel
theorem dX11_tastings_118 : decode cX11_tastings 118 = .ok (.iadd, 1) := by decide +kernel
theorem dX11_tastings_119 : decode cX11_tastings 119 = .ok (.istore 7, 2) := by decide +kernel
theorem dX11_tastings_121 : decode cX11_tastings 121 = .ok (.iload 9, 2) := by decide +kernel
theorem dX11_tastings_123 : decode cX11_tastings 123 = .ok (.istore 5, 2) := by decide +kernel
theorem dX11_tastings_125 : decode cX11_tastings 125 = .ok (.iinc 8 1, 3) := by decide +kernel
theorem dX11_tastings_128 : decode cX11_tastings 128 = .ok (.goto (-79), 3) := by decide +kernel
theorem dX11_tastings_131 : decode cX11_tastings 131 = .ok (.iload_n 2, 1) := by decide +kernel
theorem dX11_tastings_132 : decode cX11_tastings 132 = .ok (.tableswitch 37 0 2 #[28, 31, 34], 28) := by decide +kernel
theorem dX11_tastings_160 : decode cX11_tastings 160 = .ok (.iload 5, 2) := by decide +kernel
theorem dX11_tastings_162 : decode cX11_tastings 162 = .ok (.ireturn, 1) := by decide +kernel
theorem dX11_tastings_163 : decode cX11_tastings 163 = .ok (.iload 6, 2) := by decide +kernel
theorem dX11_tastings_165 : decode cX11_tastings 165 = .ok (.ireturn, 1) := by decide +kernel
theorem dX11_tastings_166 : decode cX11_tastings 166 = .ok (.iload 7, 2) := by decide +kernel
theorem dX11_tastings_168 : decode cX11_tastings 168 = .ok (.ireturn, 1) := by decide +kernel
theorem dX11_tastings_169 : decode cX11_tastings 169 = .ok (.iload 4, 2) := by decide +kernel
theorem dX11_tastings_171 : decode cX11_tastings 171 = .ok (.ireturn, 1) := by decide +kernel
theorem dX11_copies_0 : decode cX11_copies 0 = .ok (.iload_n 1, 1) := by decide +kernel
theorem dX11_copies_1 : decode cX11_copies 1 = .ok (.invokestatic 111, 3) := by decide +kernel
theorem dX11_copies_4 : decode cX11_copies 4 = .ok (.istore_n 2, 1) := by decide +kernel
theorem dX11_copies_5 : decode cX11_copies 5 = .ok (.iload_n 2, 1) := by decide +kernel
theorem dX11_copies_6 : decode cX11_copies 6 = .ok (.iconst (-1), 1) := by decide +kernel
theorem dX11_copies_7 : decode cX11_copies 7 = .ok (.if_icmp .ne 5, 3) := by decide +kernel
theorem dX11_copies_10 : decode cX11_copies 10 = .ok (.iconst (-1), 1) := by decide +kernel
theorem dX11_copies_11 : decode cX11_copies 11 = .ok (.ireturn, 1) := by decide +kernel
theorem dX11_copies_12 : decode cX11_copies 12 = .ok (.iconst 0, 1) := by decide +kernel
theorem dX11_copies_13 : decode cX11_copies 13 = .ok (.istore_n 3, 1) := by decide +kernel
theorem dX11_copies_14 : decode cX11_copies 14 = .ok (.iconst 0, 1) := by decide +kernel
theorem dX11_copies_15 : decode cX11_copies 15 = .ok (.istore 4, 2) := by decide +kernel
theorem dX11_copies_17 : decode cX11_copies 17 = .ok (.iload 4, 2) := by decide +kernel
theorem dX11_copies_19 : decode cX11_copies 19 = .ok (.aload_n 0, 1) := by decide +kernel
theorem dX11_copies_20 : decode cX11_copies 20 = .ok (.getfield 10, 3) := by decide +kernel
theorem dX11_copies_23 : decode cX11_copies 23 = .ok (.getfield 136, 3) := by decide +kernel
theorem dX11_copies_26 : decode cX11_copies 26 = .ok (.if_icmp .ge 65, 3) := by decide +kernel
theorem dX11_copies_29 : decode cX11_copies 29 = .ok (.iconst 0, 1) := by decide +kernel
theorem dX11_copies_30 : decode cX11_copies 30 = .ok (.istore 5, 2) := by decide +kernel
theorem dX11_copies_32 : decode cX11_copies 32 = .ok (.iload 5, 2) := by decide +kernel
theorem dX11_copies_34 : decode cX11_copies 34 = .ok (.bipush 6, 2) := by decide +kernel
theorem dX11_copies_36 : decode cX11_copies 36 = .ok (.if_icmp .ge 49, 3) := by decide +kernel
theorem dX11_copies_39 : decode cX11_copies 39 = .ok (.aload_n 0, 1) := by decide +kernel
theorem dX11_copies_40 : decode cX11_copies 40 = .ok (.getfield 10, 3) := by decide +kernel
theorem dX11_copies_43 : decode cX11_copies 43 = .ok (.iload 4, 2) := by decide +kernel
theorem dX11_copies_45 : decode cX11_copies 45 = .ok (.iload 5, 2) := by decide +kernel
theorem dX11_copies_47 : decode cX11_copies 47 = .ok (.invokevirtual 337, 3) := by decide +kernel
theorem dX11_copies_50 : decode cX11_copies 50 = .ok (.ifCond .le 29, 3) := by decide +kernel
theorem dX11_copies_53 : decode cX11_copies 53 = .ok (.aload_n 0, 1) := by decide +kernel
theorem dX11_copies_54 : decode cX11_copies 54 = .ok (.getfield 10, 3) := by decide +kernel
theorem dX11_copies_57 : decode cX11_copies 57 = .ok (.getfield 143, 3) := by decide +kernel
theorem dX11_copies_60 : decode cX11_copies 60 = .ok (.iload 4, 2) := by decide +kernel
theorem dX11_copies_62 : decode cX11_copies 62 = .ok (.iaload, 1) := by decide +kernel
theorem dX11_copies_63 : decode cX11_copies 63 = .ok (.iload 5, 2) := by decide +kernel
theorem dX11_copies_65 : decode cX11_copies 65 = .ok (.invokestatic 340, 3) := by decide +kernel
theorem dX11_copies_68 : decode cX11_copies 68 = .ok (.iload_n 2, 1) := by decide +kernel
theorem dX11_copies_69 : decode cX11_copies 69 = .ok (.if_icmp .ne 10, 3) := by decide +kernel
theorem dX11_copies_72 : decode cX11_copies 72 = .ok (.iload_n 3, 1) := by decide +kernel
theorem dX11_copies_73 : decode cX11_copies 73 = .ok (.iconst 1, 1) := by decide +kernel
theorem dX11_copies_74 : decode cX11_copies 74 = .ok (.iload 4, 2) := by decide +kernel
theorem dX11_copies_76 : decode cX11_copies 76 = .ok (.ishl, 1) := by decide +kernel
theorem dX11_copies_77 : decode cX11_copies 77 = .ok (.ior, 1) := by decide +kernel
theorem dX11_copies_78 : decode cX11_copies 78 = .ok (.istore_n 3, 1) := by decide +kernel
theorem dX11_copies_79 : decode cX11_copies 79 = .ok (.iinc 5 1, 3) := by decide +kernel
theorem dX11_copies_82 : decode cX11_copies 82 = .ok (.goto (-50), 3) := by decide +kernel
theorem dX11_copies_85 : decode cX11_copies 85 = .ok (.iinc 4 1, 3) := by decide +kernel
theorem dX11_copies_88 : decode cX11_copies 88 = .ok (.goto (-71), 3) := by decide +kernel
theorem dX11_copies_91 : decode cX11_copies 91 = .ok (.iload_n 3, 1) := by decide +kernel
theorem dX11_copies_92 : decode cX11_copies 92 = .ok (.ireturn, 1) := by decide +kernel
theorem dX11_stood_0 : decode cX11_stood 0 = .ok (.iload_n 1, 1) := by decide +kernel
theorem dX11_stood_1 : decode cX11_stood 1 = .ok (.invokestatic 111, 3) := by decide +kernel
theorem dX11_stood_4 : decode cX11_stood 4 = .ok (.iconst (-1), 1) := by decide +kernel
theorem dX11_stood_5 : decode cX11_stood 5 = .ok (.if_icmp .ne 7, 3) := by decide +kernel
theorem dX11_stood_8 : decode cX11_stood 8 = .ok (.iconst (-1), 1) := by decide +kernel
theorem dX11_stood_9 : decode cX11_stood 9 = .ok (.goto 4, 3) := by decide +kernel
theorem dX11_stood_12 : decode cX11_stood 12 = .ok (.iload_n 1, 1) := by decide +kernel
theorem dX11_stood_13 : decode cX11_stood 13 = .ok (.istore_n 2, 1) := by decide +kernel
theorem dX11_stood_14 : decode cX11_stood 14 = .ok (.iload_n 2, 1) := by decide +kernel
theorem dX11_stood_15 : decode cX11_stood 15 = .ok (.iconst (-1), 1) := by decide +kernel
theorem dX11_stood_16 : decode cX11_stood 16 = .ok (.if_icmp .ne 7, 3) := by decide +kernel
theorem dX11_stood_19 : decode cX11_stood 19 = .ok (.iconst (-1), 1) := by decide +kernel
theorem dX11_stood_20 : decode cX11_stood 20 = .ok (.goto 4, 3) := by decide +kernel
theorem dX11_stood_23 : decode cX11_stood 23 = .ok (.iconst 0, 1) := by decide +kernel
theorem dX11_stood_24 : decode cX11_stood 24 = .ok (.istore_n 3, 1) := by decide +kernel
theorem dX11_stood_25 : decode cX11_stood 25 = .ok (.iconst 1, 1) := by decide +kernel
theorem dX11_stood_26 : decode cX11_stood 26 = .ok (.istore 4, 2) := by decide +kernel
theorem dX11_stood_28 : decode cX11_stood 28 = .ok (.iconst 0, 1) := by decide +kernel
theorem dX11_stood_29 : decode cX11_stood 29 = .ok (.istore 5, 2) := by decide +kernel
theorem dX11_stood_31 : decode cX11_stood 31 = .ok (.iload 5, 2) := by decide +kernel
theorem dX11_stood_33 : decode cX11_stood 33 = .ok (.iconst 5, 1) := by decide +kernel
theorem dX11_stood_34 : decode cX11_stood 34 = .ok (.if_icmp .ge 58, 3) := by decide +kernel
theorem dX11_stood_37 : decode cX11_stood 37 = .ok (.iload_n 2, 1) := by decide +kernel
theorem dX11_stood_38 : decode cX11_stood 38 = .ok (.ifCond .le 54, 3) := by decide +kernel
theorem dX11_stood_41 : decode cX11_stood 41 = .ok (.aload_n 0, 1) := by decide +kernel
theorem dX11_stood_42 : decode cX11_stood 42 = .ok (.getfield 10, 3) := by decide +kernel
theorem dX11_stood_45 : decode cX11_stood 45 = .ok (.iload_n 2, 1) := by decide +kernel
theorem dX11_stood_46 : decode cX11_stood 46 = .ok (.bipush 10, 2) := by decide +kernel
theorem dX11_stood_48 : decode cX11_stood 48 = .ok (.irem, 1) := by decide +kernel
theorem dX11_stood_49 : decode cX11_stood 49 = .ok (.iconst 1, 1) := by decide +kernel
theorem dX11_stood_50 : decode cX11_stood 50 = .ok (.isub, 1) := by decide +kernel
theorem dX11_stood_51 : decode cX11_stood 51 = .ok (.invokevirtual 343, 3) := by decide +kernel
theorem dX11_stood_54 : decode cX11_stood 54 = .ok (.istore 6, 2) := by decide +kernel
theorem dX11_stood_56 : decode cX11_stood 56 = .ok (.iload 6, 2) := by decide +kernel
theorem dX11_stood_58 : decode cX11_stood 58 = .ok (.iconst (-1), 1) := by decide +kernel
theorem dX11_stood_59 : decode cX11_stood 59 = .ok (.if_icmp .ne 5, 3) := by decide +kernel
theorem dX11_stood_62 : decode cX11_stood 62 = .ok (.iconst (-1), 1) := by decide +kernel
theorem dX11_stood_63 : decode cX11_stood 63 = .ok (.ireturn, 1) := by decide +kernel
theorem dX11_stood_64 : decode cX11_stood 64 = .ok (.iload_n 3, 1) := by decide +kernel
theorem dX11_stood_65 : decode cX11_stood 65 = .ok (.iload 6, 2) := by decide +kernel
theorem dX11_stood_67 : decode cX11_stood 67 = .ok (.iconst 1, 1) := by decide +kernel
theorem dX11_stood_68 : decode cX11_stood 68 = .ok (.iadd, 1) := by decide +kernel
theorem dX11_stood_69 : decode cX11_stood 69 = .ok (.iload 4, 2) := by decide +kernel
theorem dX11_stood_71 : decode cX11_stood 71 = .ok (.imul, 1) := by decide +kernel
theorem dX11_stood_72 : decode cX11_stood 72 = .ok (.iadd, 1) := by decide +kernel
theorem dX11_stood_73 : decode cX11_stood 73 = .ok (.istore_n 3, 1) := by decide +kernel
theorem dX11_stood_74 : decode cX11_stood 74 = .ok (.iload 4, 2) := by decide +kernel
theorem dX11_stood_76 : decode cX11_stood 76 = .ok (.bipush 10, 2) := by decide +kernel
theorem dX11_stood_78 : decode cX11_stood 78 = .ok (.imul, 1) := by decide +kernel
theorem dX11_stood_79 : decode cX11_stood 79 = .ok (.istore 4, 2) := by decide +kernel
theorem dX11_stood_81 : decode cX11_stood 81 = .ok (.iload_n 2, 1) := by decide +kernel
theorem dX11_stood_82 : decode cX11_stood 82 = .ok (.bipush 10, 2) := by decide +kernel
theorem dX11_stood_84 : decode cX11_stood 84 = .ok (.idiv, 1) := by decide +kernel
theorem dX11_stood_85 : decode cX11_stood 85 = .ok (.istore_n 2, 1) := by decide +kernel
theorem dX11_stood_86 : decode cX11_stood 86 = .ok (.iinc 5 1, 3) := by decide +kernel
theorem dX11_stood_89 : decode cX11_stood 89 = .ok (.goto (-58), 3) := by decide +kernel
theorem dX11_stood_92 : decode cX11_stood 92 = .ok (.iload_n 3, 1) := by decide +kernel
theorem dX11_stood_93 : decode cX11_stood 93 = .ok (.ireturn, 1) := by decide +kernel
theorem dX11_line_0 : decode cX11_line 0 = .ok (.iload_n 1, 1) := by decide +kernel
theorem dX11_line_1 : decode cX11_line 1 = .ok (.ifCond .lt 21, 3) := by decide +kernel
theorem dX11_line_4 : decode cX11_line 4 = .ok (.iload_n 1, 1) := by decide +kernel
theorem dX11_line_5 : decode cX11_line 5 = .ok (.ldc_w 346, 3) := by decide +kernel
theorem dX11_line_8 : decode cX11_line 8 = .ok (.if_icmp .gt 14, 3) := by decide +kernel
theorem dX11_line_11 : decode cX11_line 11 = .ok (.iload_n 3, 1) := by decide +kernel
theorem dX11_line_12 : decode cX11_line 12 = .ok (.iconst 1, 1) := by decide +kernel
theorem dX11_line_13 : decode cX11_line 13 = .ok (.if_icmp .lt 9, 3) := by decide +kernel
theorem dX11_line_16 : decode cX11_line 16 = .ok (.iload_n 3, 1) := by decide +kernel
theorem dX11_line_17 : decode cX11_line 17 = .ok (.bipush 60, 2) := by decide +kernel
theorem dX11_line_19 : decode cX11_line 19 = .ok (.if_icmp .le 9, 3) := by decide +kernel
theorem dX11_line_22 : decode cX11_line 22 = .ok (.aload_n 0, 1) := by decide +kernel
theorem dX11_line_23 : decode cX11_line 23 = .ok (.iconst (-1), 1) := by decide +kernel
theorem dX11_line_24 : decode cX11_line 24 = .ok (.invokevirtual 97, 3) := by decide +kernel
theorem dX11_line_27 : decode cX11_line 27 = .ok (.ireturn, 1) := by decide +kernel
theorem dX11_line_28 : decode cX11_line 28 = .ok (.aload_n 0, 1) := by decide +kernel
theorem dX11_line_29 : decode cX11_line 29 = .ok (.getfield 10, 3) := by decide +kernel
theorem dX11_line_32 : decode cX11_line 32 = .ok (.iload_n 2, 1) := by decide +kernel
theorem dX11_line_33 : decode cX11_line 33 = .ok (.invokevirtual 119, 3) := by decide +kernel
theorem dX11_line_36 : decode cX11_line 36 = .ok (.ifCond .ne 10, 3) := by decide +kernel
theorem dX11_line_39 : decode cX11_line 39 = .ok (.aload_n 0, 1) := by decide +kernel
theorem dX11_line_40 : decode cX11_line 40 = .ok (.bipush (-2), 2) := by decide +kernel
theorem dX11_line_42 : decode cX11_line 42 = .ok (.invokevirtual 97, 3) := by decide +kernel
theorem dX11_line_45 : decode cX11_line 45 = .ok (.ireturn, 1) := by decide +kernel
theorem dX11_line_46 : decode cX11_line 46 = .ok (.iload_n 1, 1) := by decide +kernel
theorem dX11_line_47 : decode cX11_line 47 = .ok (.istore 4, 2) := by decide +kernel
theorem dX11_line_49 : decode cX11_line 49 = .ok (.aload_n 0, 1) := by decide +kernel
theorem dX11_line_50 : decode cX11_line 50 = .ok (.getfield 10, 3) := by decide +kernel
theorem dX11_line_53 : decode cX11_line 53 = .ok (.getfield 143, 3) := by decide +kernel
theorem dX11_line_56 : decode cX11_line 56 = .ok (.iload_n 2, 1) := by decide +kernel
theorem dX11_line_57 : decode cX11_line 57 = .ok (.iaload, 1) := by decide +kernel
theorem dX11_line_58 : decode cX11_line 58 = .ok (.istore 5, 2) := by decide +kernel
theorem dX11_line_60 : decode cX11_line 60 = .ok (.aload_n 0, 1) := by decide +kernel
theorem dX11_line_61 : decode cX11_line 61 = .ok (.getfield 79, 3) := by decide +kernel
theorem dX11_line_64 : decode cX11_line 64 = .ok (.iconst 0, 1) := by decide +kernel
theorem dX11_line_65 : decode cX11_line 65 = .ok (.iload 5, 2) := by decide +kernel
theorem dX11_line_67 : decode cX11_line 67 = .ok (.iastore, 1) := by decide +kernel
theorem dX11_line_68 : decode cX11_line 68 = .ok (.aload_n 0, 1) := by decide +kernel
theorem dX11_line_69 : decode cX11_line 69 = .ok (.iload_n 3, 1) := by decide +kernel
theorem dX11_line_70 : decode cX11_line 70 = .ok (.iconst 1, 1) := by decide +kernel
theorem dX11_line_71 : decode cX11_line 71 = .ok (.iadd, 1) := by decide +kernel
theorem dX11_line_72 : decode cX11_line 72 = .ok (.putfield 347, 3) := by decide +kernel
theorem dX11_line_75 : decode cX11_line 75 = .ok (.iconst 1, 1) := by decide +kernel
theorem dX11_line_76 : decode cX11_line 76 = .ok (.istore 6, 2) := by decide +kernel
theorem dX11_line_78 : decode cX11_line 78 = .ok (.iload 6, 2) := by decide +kernel
theorem dX11_line_80 : decode cX11_line 80 = .ok (.iload_n 3, 1) := by decide +kernel
theorem dX11_line_81 : decode cX11_line 81 = .ok (.if_icmp .gt 97, 3) := by decide +kernel
theorem dX11_line_84 : decode cX11_line 84 = .ok (.aload_n 0, 1) := by decide +kernel
theorem dX11_line_85 : decode cX11_line 85 = .ok (.getfield 39, 3) := by decide +kernel
theorem dX11_line_88 : decode cX11_line 88 = .ok (.sipush 999, 3) := by decide +kernel
theorem dX11_line_91 : decode cX11_line 91 = .ok (.aload_n 0, 1) := by decide +kernel
theorem dX11_line_92 : decode cX11_line 92 = .ok (.getfield 10, 3) := by decide +kernel
theorem dX11_line_95 : decode cX11_line 95 = .ok (.getfield 161, 3) := by decide +kernel
theorem dX11_line_98 : decode cX11_line 98 = .ok (.iload 6, 2) := by decide +kernel
theorem dX11_line_100 : decode cX11_line 100 = .ok (.iadd, 1) := by decide +kernel
theorem dX11_line_101 : decode cX11_line 101 = .ok (.iconst 1, 1) := by decide +kernel
theorem dX11_line_102 : decode cX11_line 102 = .ok (.isub, 1) := by decide +kernel
theorem dX11_line_103 : decode cX11_line 103 = .ok (.invokestatic 350, 3) := by decide +kernel
theorem dX11_line_106 : decode cX11_line 106 = .ok (.invokevirtual 233, 3) := by decide +kernel
theorem dX11_line_109 : decode cX11_line 109 = .ok (.aload_n 0, 1) := by decide +kernel
theorem dX11_line_110 : decode cX11_line 110 = .ok (.getfield 48, 3) := by decide +kernel
theorem dX11_line_113 : decode cX11_line 113 = .ok (.iload 5, 2) := by decide +kernel
theorem dX11_line_115 : decode cX11_line 115 = .ok (.invokevirtual 245, 3) := by decide +kernel
theorem dX11_line_118 : decode cX11_line 118 = .ok (.aload_n 0, 1) := by decide +kernel
theorem dX11_line_119 : decode cX11_line 119 = .ok (.getfield 48, 3) := by decide +kernel
theorem dX11_line_122 : decode cX11_line 122 = .ok (.getfield 355, 3) := by decide +kernel
theorem dX11_line_125 : decode cX11_line 125 = .ok (.ifCond .le 38, 3) := by decide +kernel
theorem dX11_line_128 : decode cX11_line 128 = .ok (.iload 4, 2) := by decide +kernel
theorem dX11_line_130 : decode cX11_line 130 = .ok (.sipush 1103, 3) := by decide +kernel
theorem dX11_line_133 : decode cX11_line 133 = .ok (.imul, 1) := by decide +kernel
theorem dX11_line_134 : decode cX11_line 134 = .ok (.sipush 12345, 3) := by decide +kernel
theorem dX11_line_137 : decode cX11_line 137 = .ok (.iadd, 1) := by decide +kernel
theorem dX11_line_138 : decode cX11_line 138 = .ok (.ldc_w 358, 3) := by decide +kernel
theorem dX11_line_141 : decode cX11_line 141 = .ok (.irem, 1) := by decide +kernel
theorem dX11_line_142 : decode cX11_line 142 = .ok (.istore 4, 2) := by decide +kernel
theorem dX11_line_144 : decode cX11_line 144 = .ok (.aload_n 0, 1) := by decide +kernel
theorem dX11_line_145 : decode cX11_line 145 = .ok (.getfield 48, 3) := by decide +kernel
theorem dX11_line_148 : decode cX11_line 148 = .ok (.iload 4, 2) := by decide +kernel
theorem dX11_line_150 : decode cX11_line 150 = .ok (.aload_n 0, 1) := by decide +kernel
theorem dX11_line_151 : decode cX11_line 151 = .ok (.getfield 48, 3) := by decide +kernel
theorem dX11_line_154 : decode cX11_line 154 = .ok (.getfield 355, 3) := by decide +kernel
theorem dX11_line_157 : decode cX11_line 157 = .ok (.irem, 1) := by decide +kernel
theorem dX11_line_158 : decode cX11_line 158 = .ok (.invokevirtual 359, 3) := by decide +kernel
theorem dX11_line_161 : decode cX11_line 161 = .ok (.istore 5, 2) := by decide +kernel
theorem dX11_line_163 : decode cX11_line 163 = .ok (.aload_n 0, 1) := by decide +kernel
theorem dX11_line_164 : decode cX11_line 164 = .ok (.getfield 79, 3) := by decide +kernel
theorem dX11_line_167 : decode cX11_line 167 = .ok (.iload 6, 2) := by decide +kernel
theorem dX11_line_169 : decode cX11_line 169 = .ok (.iload 5, 2) := by decide +kernel
theorem dX11_line_171 : decode cX11_line 171 = .ok (.iastore, 1) := by decide +kernel
theorem dX11_line_172 : decode cX11_line 172 = .ok (.iinc 6 1, 3) := by decide +kernel
theorem dX11_line_175 : decode cX11_line 175 = .ok (.goto (-97), 3) := by decide +kernel
theorem dX11_line_178 : decode cX11_line 178 = .ok (.aload_n 0, 1) := by decide +kernel
theorem dX11_line_179 : decode cX11_line 179 = .ok (.iload 5, 2) := by decide +kernel
theorem dX11_line_181 : decode cX11_line 181 = .ok (.invokestatic 146, 3) := by decide +kernel
theorem dX11_line_184 : decode cX11_line 184 = .ok (.invokevirtual 108, 3) := by decide +kernel
theorem dX11_line_187 : decode cX11_line 187 = .ok (.ireturn, 1) := by decide +kernel
theorem dX11_drawn_0 : decode cX11_drawn 0 = .ok (.iload_n 1, 1) := by decide +kernel
theorem dX11_drawn_1 : decode cX11_drawn 1 = .ok (.ifCond .lt 23, 3) := by decide +kernel
theorem dX11_drawn_4 : decode cX11_drawn 4 = .ok (.iload_n 1, 1) := by decide +kernel
theorem dX11_drawn_5 : decode cX11_drawn 5 = .ok (.aload_n 0, 1) := by decide +kernel
theorem dX11_drawn_6 : decode cX11_drawn 6 = .ok (.getfield 347, 3) := by decide +kernel
theorem dX11_drawn_9 : decode cX11_drawn 9 = .ok (.if_icmp .ge 15, 3) := by decide +kernel
theorem dX11_drawn_12 : decode cX11_drawn 12 = .ok (.aload_n 0, 1) := by decide +kernel
theorem dX11_drawn_13 : decode cX11_drawn 13 = .ok (.getfield 79, 3) := by decide +kernel
theorem dX11_drawn_16 : decode cX11_drawn 16 = .ok (.iload_n 1, 1) := by decide +kernel
theorem dX11_drawn_17 : decode cX11_drawn 17 = .ok (.iaload, 1) := by decide +kernel
theorem dX11_drawn_18 : decode cX11_drawn 18 = .ok (.invokestatic 146, 3) := by decide +kernel
theorem dX11_drawn_21 : decode cX11_drawn 21 = .ok (.goto 4, 3) := by decide +kernel
theorem dX11_drawn_24 : decode cX11_drawn 24 = .ok (.iconst (-1), 1) := by decide +kernel
theorem dX11_drawn_25 : decode cX11_drawn 25 = .ok (.ireturn, 1) := by decide +kernel
theorem dX11_image_0 : decode cX11_image 0 = .ok (.iload_n 1, 1) := by decide +kernel
theorem dX11_image_1 : decode cX11_image 1 = .ok (.ifCond .lt 8, 3) := by decide +kernel
theorem dX11_image_4 : decode cX11_image 4 = .ok (.iload_n 1, 1) := by decide +kernel
theorem dX11_image_5 : decode cX11_image 5 = .ok (.iconst 2, 1) := by decide +kernel
theorem dX11_image_6 : decode cX11_image 6 = .ok (.if_icmp .lt 9, 3) := by decide +kernel
theorem dX11_image_9 : decode cX11_image 9 = .ok (.aload_n 0, 1) := by decide +kernel
theorem dX11_image_10 : decode cX11_image 10 = .ok (.iconst (-1), 1) := by decide +kernel
theorem dX11_image_11 : decode cX11_image 11 = .ok (.invokevirtual 97, 3) := by decide +kernel
theorem dX11_image_14 : decode cX11_image 14 = .ok (.ireturn, 1) := by decide +kernel
theorem dX11_image_15 : decode cX11_image 15 = .ok (.aload_n 0, 1) := by decide +kernel
theorem dX11_image_16 : decode cX11_image 16 = .ok (.getfield 16, 3) := by decide +kernel
theorem dX11_image_19 : decode cX11_image 19 = .ok (.iload_n 1, 1) := by decide +kernel
theorem dX11_image_20 : decode cX11_image 20 = .ok (.aaload, 1) := by decide +kernel
theorem dX11_image_21 : decode cX11_image 21 = .ok (.ifnonnull 16, 3) := by decide +kernel
theorem dX11_image_24 : decode cX11_image 24 = .ok (.aload_n 0, 1) := by decide +kernel
theorem dX11_image_25 : decode cX11_image 25 = .ok (.getfield 16, 3) := by decide +kernel
theorem dX11_image_28 : decode cX11_image 28 = .ok (.iload_n 1, 1) := by decide +kernel
theorem dX11_image_29 : decode cX11_image 29 = .ok (.new 7, 3) := by decide +kernel
theorem dX11_image_32 : decode cX11_image 32 = .ok (.dup, 1) := by decide +kernel
theorem dX11_image_33 : decode cX11_image 33 = .ok (.invokespecial 9, 3) := by decide +kernel
theorem dX11_image_36 : decode cX11_image 36 = .ok (.aastore, 1) := by decide +kernel
theorem dX11_image_37 : decode cX11_image 37 = .ok (.aload_n 0, 1) := by decide +kernel
theorem dX11_image_38 : decode cX11_image 38 = .ok (.getfield 16, 3) := by decide +kernel
theorem dX11_image_41 : decode cX11_image 41 = .ok (.iload_n 1, 1) := by decide +kernel
theorem dX11_image_42 : decode cX11_image 42 = .ok (.aaload, 1) := by decide +kernel
theorem dX11_image_43 : decode cX11_image 43 = .ok (.aload_n 0, 1) := by decide +kernel
theorem dX11_image_44 : decode cX11_image 44 = .ok (.getfield 10, 3) := by decide +kernel
theorem dX11_image_47 : decode cX11_image 47 = .ok (.invokevirtual 362, 3) := by decide +kernel
theorem dX11_image_50 : decode cX11_image 50 = .ok (.aload_n 0, 1) := by decide +kernel
theorem dX11_image_51 : decode cX11_image 51 = .ok (.iconst 0, 1) := by decide +kernel
theorem dX11_image_52 : decode cX11_image 52 = .ok (.invokevirtual 108, 3) := by decide +kernel
theorem dX11_image_55 : decode cX11_image 55 = .ok (.ireturn, 1) := by decide +kernel
theorem dX11_back_0 : decode cX11_back 0 = .ok (.iload_n 1, 1) := by decide +kernel
theorem dX11_back_1 : decode cX11_back 1 = .ok (.ifCond .lt 8, 3) := by decide +kernel
theorem dX11_back_4 : decode cX11_back 4 = .ok (.iload_n 1, 1) := by decide +kernel
theorem dX11_back_5 : decode cX11_back 5 = .ok (.iconst 2, 1) := by decide +kernel
theorem dX11_back_6 : decode cX11_back 6 = .ok (.if_icmp .lt 9, 3) := by decide +kernel
theorem dX11_back_9 : decode cX11_back 9 = .ok (.aload_n 0, 1) := by decide +kernel
theorem dX11_back_10 : decode cX11_back 10 = .ok (.iconst (-1), 1) := by decide +kernel
theorem dX11_back_11 : decode cX11_back 11 = .ok (.invokevirtual 97, 3) := by decide +kernel
theorem dX11_back_14 : decode cX11_back 14 = .ok (.ireturn, 1) := by decide +kernel
theorem dX11_back_15 : decode cX11_back 15 = .ok (.aload_n 0, 1) := by decide +kernel
theorem dX11_back_16 : decode cX11_back 16 = .ok (.getfield 16, 3) := by decide +kernel
theorem dX11_back_19 : decode cX11_back 19 = .ok (.iload_n 1, 1) := by decide +kernel
theorem dX11_back_20 : decode cX11_back 20 = .ok (.aaload, 1) := by decide +kernel
theorem dX11_back_21 : decode cX11_back 21 = .ok (.ifnonnull 10, 3) := by decide +kernel
theorem dX11_back_24 : decode cX11_back 24 = .ok (.aload_n 0, 1) := by decide +kernel
theorem dX11_back_25 : decode cX11_back 25 = .ok (.bipush (-2), 2) := by decide +kernel
theorem dX11_back_27 : decode cX11_back 27 = .ok (.invokevirtual 97, 3) := by decide +kernel
theorem dX11_back_30 : decode cX11_back 30 = .ok (.ireturn, 1) := by decide +kernel
theorem dX11_back_31 : decode cX11_back 31 = .ok (.aload_n 0, 1) := by decide +kernel
theorem dX11_back_32 : decode cX11_back 32 = .ok (.getfield 10, 3) := by decide +kernel
theorem dX11_back_35 : decode cX11_back 35 = .ok (.aload_n 0, 1) := by decide +kernel
theorem dX11_back_36 : decode cX11_back 36 = .ok (.getfield 16, 3) := by decide +kernel
theorem dX11_back_39 : decode cX11_back 39 = .ok (.iload_n 1, 1) := by decide +kernel
theorem dX11_back_40 : decode cX11_back 40 = .ok (.aaload, 1) := by decide +kernel
theorem dX11_back_41 : decode cX11_back 41 = .ok (.invokevirtual 362, 3) := by decide +kernel
theorem dX11_back_44 : decode cX11_back 44 = .ok (.aload_n 0, 1) := by decide +kernel
theorem dX11_back_45 : decode cX11_back 45 = .ok (.iconst 0, 1) := by decide +kernel
theorem dX11_back_46 : decode cX11_back 46 = .ok (.invokevirtual 108, 3) := by decide +kernel
theorem dX11_back_49 : decode cX11_back 49 = .ok (.ireturn, 1) := by decide +kernel
theorem dX11_count_0 : decode cX11_count 0 = .ok (.iload_n 1, 1) := by decide +kernel
theorem dX11_count_1 : decode cX11_count 1 = .ok (.iconst 3, 1) := by decide +kernel
theorem dX11_count_2 : decode cX11_count 2 = .ok (.if_icmp .lt 18, 3) := by decide +kernel
theorem dX11_count_5 : decode cX11_count 5 = .ok (.iload_n 1, 1) := by decide +kernel
theorem dX11_count_6 : decode cX11_count 6 = .ok (.bipush 7, 2) := by decide +kernel
theorem dX11_count_8 : decode cX11_count 8 = .ok (.if_icmp .gt 12, 3) := by decide +kernel
theorem dX11_count_11 : decode cX11_count 11 = .ok (.aload_n 0, 1) := by decide +kernel
theorem dX11_count_12 : decode cX11_count 12 = .ok (.getfield 75, 3) := by decide +kernel
theorem dX11_count_15 : decode cX11_count 15 = .ok (.iload_n 1, 1) := by decide +kernel
theorem dX11_count_16 : decode cX11_count 16 = .ok (.iconst 3, 1) := by decide +kernel
theorem dX11_count_17 : decode cX11_count 17 = .ok (.isub, 1) := by decide +kernel
theorem dX11_count_18 : decode cX11_count 18 = .ok (.iaload, 1) := by decide +kernel
theorem dX11_count_19 : decode cX11_count 19 = .ok (.ireturn, 1) := by decide +kernel
theorem dX11_count_20 : decode cX11_count 20 = .ok (.iload_n 1, 1) := by decide +kernel
theorem dX11_count_21 : decode cX11_count 21 = .ok (.tableswitch 107 0 10 #[59, 67, 75, 107, 107, 107, 107, 107, 83, 91, 99], 59) := by decide +kernel
theorem dX11_count_80 : decode cX11_count 80 = .ok (.aload_n 0, 1) := by decide +kernel
theorem dX11_count_81 : decode cX11_count 81 = .ok (.getfield 10, 3) := by decide +kernel
theorem dX11_count_84 : decode cX11_count 84 = .ok (.getfield 136, 3) := by decide +kernel
theorem dX11_count_87 : decode cX11_count 87 = .ok (.ireturn, 1) := by decide +kernel
theorem dX11_count_88 : decode cX11_count 88 = .ok (.aload_n 0, 1) := by decide +kernel
theorem dX11_count_89 : decode cX11_count 89 = .ok (.getfield 10, 3) := by decide +kernel
theorem dX11_count_92 : decode cX11_count 92 = .ok (.getfield 189, 3) := by decide +kernel
theorem dX11_count_95 : decode cX11_count 95 = .ok (.ireturn, 1) := by decide +kernel
theorem dX11_count_96 : decode cX11_count 96 = .ok (.aload_n 0, 1) := by decide +kernel
theorem dX11_count_97 : decode cX11_count 97 = .ok (.getfield 23, 3) := by decide +kernel
theorem dX11_count_100 : decode cX11_count 100 = .ok (.getfield 176, 3) := by decide +kernel
theorem dX11_count_103 : decode cX11_count 103 = .ok (.ireturn, 1) := by decide +kernel
theorem dX11_count_104 : decode cX11_count 104 = .ok (.aload_n 0, 1) := by decide +kernel
theorem dX11_count_105 : decode cX11_count 105 = .ok (.getfield 10, 3) := by decide +kernel
theorem dX11_count_108 : decode cX11_count 108 = .ok (.getfield 227, 3) := by decide +kernel
theorem dX11_count_111 : decode cX11_count 111 = .ok (.ireturn, 1) := by decide +kernel
theorem dX11_count_112 : decode cX11_count 112 = .ok (.aload_n 0, 1) := by decide +kernel
theorem dX11_count_113 : decode cX11_count 113 = .ok (.getfield 10, 3) := by decide +kernel
theorem dX11_count_116 : decode cX11_count 116 = .ok (.getfield 161, 3) := by decide +kernel
theorem dX11_count_119 : decode cX11_count 119 = .ok (.ireturn, 1) := by decide +kernel
theorem dX11_count_120 : decode cX11_count 120 = .ok (.aload_n 0, 1) := by decide +kernel
theorem dX11_count_121 : decode cX11_count 121 = .ok (.getfield 10, 3) := by decide +kernel
theorem dX11_count_124 : decode cX11_count 124 = .ok (.getfield 167, 3) := by decide +kernel
theorem dX11_count_127 : decode cX11_count 127 = .ok (.ireturn, 1) := by decide +kernel
theorem dX11_count_128 : decode cX11_count 128 = .ok (.iconst (-1), 1) := by decide +kernel
theorem dX11_count_129 : decode cX11_count 129 = .ok (.ireturn, 1) := by decide +kernel
theorem dX11_status_0 : decode cX11_status 0 = .ok (.aload_n 0, 1) := by decide +kernel
theorem dX11_status_1 : decode cX11_status 1 = .ok (.getfield 365, 3) := by decide +kernel
theorem dX11_status_4 : decode cX11_status 4 = .ok (.ireturn, 1) := by decide +kernel
theorem dX11_accept_0 : decode cX11_accept 0 = .ok (.aload_n 0, 1) := by decide +kernel
theorem dX11_accept_1 : decode cX11_accept 1 = .ok (.iconst 0, 1) := by decide +kernel
theorem dX11_accept_2 : decode cX11_accept 2 = .ok (.putfield 365, 3) := by decide +kernel
theorem dX11_accept_5 : decode cX11_accept 5 = .ok (.iload_n 1, 1) := by decide +kernel
theorem dX11_accept_6 : decode cX11_accept 6 = .ok (.ireturn, 1) := by decide +kernel
theorem dX11_refuse_0 : decode cX11_refuse 0 = .ok (.aload_n 0, 1) := by decide +kernel
theorem dX11_refuse_1 : decode cX11_refuse 1 = .ok (.iload_n 1, 1) := by decide +kernel
theorem dX11_refuse_2 : decode cX11_refuse 2 = .ok (.putfield 365, 3) := by decide +kernel
theorem dX11_refuse_5 : decode cX11_refuse 5 = .ok (.aload_n 0, 1) := by decide +kernel
theorem dX11_refuse_6 : decode cX11_refuse 6 = .ok (.getfield 75, 3) := by decide +kernel
theorem dX11_refuse_9 : decode cX11_refuse 9 = .ok (.iload_n 1, 1) := by decide +kernel
theorem dX11_refuse_10 : decode cX11_refuse 10 = .ok (.bipush (-3), 2) := by decide +kernel
theorem dX11_refuse_12 : decode cX11_refuse 12 = .ok (.if_icmp .lt 10, 3) := by decide +kernel
theorem dX11_refuse_15 : decode cX11_refuse 15 = .ok (.iload_n 1, 1) := by decide +kernel
theorem dX11_refuse_16 : decode cX11_refuse 16 = .ok (.ineg, 1) := by decide +kernel
theorem dX11_refuse_17 : decode cX11_refuse 17 = .ok (.iconst 1, 1) := by decide +kernel
theorem dX11_refuse_18 : decode cX11_refuse 18 = .ok (.isub, 1) := by decide +kernel
theorem dX11_refuse_19 : decode cX11_refuse 19 = .ok (.goto 7, 3) := by decide +kernel
theorem dX11_refuse_22 : decode cX11_refuse 22 = .ok (.iload_n 1, 1) := by decide +kernel
theorem dX11_refuse_23 : decode cX11_refuse 23 = .ok (.ineg, 1) := by decide +kernel
theorem dX11_refuse_24 : decode cX11_refuse 24 = .ok (.iconst 2, 1) := by decide +kernel
theorem dX11_refuse_25 : decode cX11_refuse 25 = .ok (.isub, 1) := by decide +kernel
theorem dX11_refuse_26 : decode cX11_refuse 26 = .ok (.dup2, 1) := by decide +kernel
theorem dX11_refuse_27 : decode cX11_refuse 27 = .ok (.iaload, 1) := by decide +kernel
theorem dX11_refuse_28 : decode cX11_refuse 28 = .ok (.iconst 1, 1) := by decide +kernel
theorem dX11_refuse_29 : decode cX11_refuse 29 = .ok (.iadd, 1) := by decide +kernel
theorem dX11_refuse_30 : decode cX11_refuse 30 = .ok (.iastore, 1) := by decide +kernel
theorem dX11_refuse_31 : decode cX11_refuse 31 = .ok (.iload_n 1, 1) := by decide +kernel
theorem dX11_refuse_32 : decode cX11_refuse 32 = .ok (.ireturn, 1) := by decide +kernel
theorem dX11_settle_0 : decode cX11_settle 0 = .ok (.iload_n 1, 1) := by decide +kernel
theorem dX11_settle_1 : decode cX11_settle 1 = .ok (.ifCond .ge 11, 3) := by decide +kernel
theorem dX11_settle_4 : decode cX11_settle 4 = .ok (.aload_n 0, 1) := by decide +kernel
theorem dX11_settle_5 : decode cX11_settle 5 = .ok (.iload_n 1, 1) := by decide +kernel
theorem dX11_settle_6 : decode cX11_settle 6 = .ok (.invokevirtual 97, 3) := by decide +kernel
theorem dX11_settle_9 : decode cX11_settle 9 = .ok (.goto 8, 3) := by decide +kernel
theorem dX11_settle_12 : decode cX11_settle 12 = .ok (.aload_n 0, 1) := by decide +kernel
theorem dX11_settle_13 : decode cX11_settle 13 = .ok (.iload_n 1, 1) := by decide +kernel
theorem dX11_settle_14 : decode cX11_settle 14 = .ok (.invokevirtual 108, 3) := by decide +kernel
theorem dX11_settle_17 : decode cX11_settle 17 = .ok (.ireturn, 1) := by decide +kernel
theorem dX11_isThing_0 : decode cX11_isThing 0 = .ok (.iload_n 0, 1) := by decide +kernel
theorem dX11_isThing_1 : decode cX11_isThing 1 = .ok (.ifCond .lt 13, 3) := by decide +kernel
theorem dX11_isThing_4 : decode cX11_isThing 4 = .ok (.iload_n 0, 1) := by decide +kernel
theorem dX11_isThing_5 : decode cX11_isThing 5 = .ok (.bipush 6, 2) := by decide +kernel
theorem dX11_isThing_7 : decode cX11_isThing 7 = .ok (.if_icmp .ge 7, 3) := by decide +kernel
theorem dX11_isThing_10 : decode cX11_isThing 10 = .ok (.iconst 1, 1) := by decide +kernel
theorem dX11_isThing_11 : decode cX11_isThing 11 = .ok (.goto 4, 3) := by decide +kernel
theorem dX11_isThing_14 : decode cX11_isThing 14 = .ok (.iconst 0, 1) := by decide +kernel
theorem dX11_isThing_15 : decode cX11_isThing 15 = .ok (.ireturn, 1) := by decide +kernel
theorem dX11_isYear_0 : decode cX11_isYear 0 = .ok (.iload_n 0, 1) := by decide +kernel
theorem dX11_isYear_1 : decode cX11_isYear 1 = .ok (.ifCond .lt 14, 3) := by decide +kernel
theorem dX11_isYear_4 : decode cX11_isYear 4 = .ok (.iload_n 0, 1) := by decide +kernel
theorem dX11_isYear_5 : decode cX11_isYear 5 = .ok (.sipush 999, 3) := by decide +kernel
theorem dX11_isYear_8 : decode cX11_isYear 8 = .ok (.if_icmp .gt 7, 3) := by decide +kernel
theorem dX11_isYear_11 : decode cX11_isYear 11 = .ok (.iconst 1, 1) := by decide +kernel
theorem dX11_isYear_12 : decode cX11_isYear 12 = .ok (.goto 4, 3) := by decide +kernel
theorem dX11_isYear_15 : decode cX11_isYear 15 = .ok (.iconst 0, 1) := by decide +kernel
theorem dX11_isYear_16 : decode cX11_isYear 16 = .ok (.ireturn, 1) := by decide +kernel
theorem dX11_isChange_0 : decode cX11_isChange 0 = .ok (.iload_n 0, 1) := by decide +kernel
theorem dX11_isChange_1 : decode cX11_isChange 1 = .ok (.ifCond .lt 33, 3) := by decide +kernel
theorem dX11_isChange_4 : decode cX11_isChange 4 = .ok (.iload_n 0, 1) := by decide +kernel
theorem dX11_isChange_5 : decode cX11_isChange 5 = .ok (.iconst 4, 1) := by decide +kernel
theorem dX11_isChange_6 : decode cX11_isChange 6 = .ok (.if_icmp .gt 28, 3) := by decide +kernel
theorem dX11_isChange_9 : decode cX11_isChange 9 = .ok (.iload_n 1, 1) := by decide +kernel
theorem dX11_isChange_10 : decode cX11_isChange 10 = .ok (.ifCond .lt 24, 3) := by decide +kernel
theorem dX11_isChange_13 : decode cX11_isChange 13 = .ok (.iload_n 1, 1) := by decide +kernel
theorem dX11_isChange_14 : decode cX11_isChange 14 = .ok (.iconst 5, 1) := by decide +kernel
theorem dX11_isChange_15 : decode cX11_isChange 15 = .ok (.if_icmp .gt 19, 3) := by decide +kernel
theorem dX11_isChange_18 : decode cX11_isChange 18 = .ok (.iload_n 0, 1) := by decide +kernel
theorem dX11_isChange_19 : decode cX11_isChange 19 = .ok (.iconst 1, 1) := by decide +kernel
theorem dX11_isChange_20 : decode cX11_isChange 20 = .ok (.if_icmp .ne 10, 3) := by decide +kernel
theorem dX11_isChange_23 : decode cX11_isChange 23 = .ok (.iload_n 2, 1) := by decide +kernel
theorem dX11_isChange_24 : decode cX11_isChange 24 = .ok (.invokestatic 89, 3) := by decide +kernel
theorem dX11_isChange_27 : decode cX11_isChange 27 = .ok (.ifCond .eq 7, 3) := by decide +kernel
theorem dX11_isChange_30 : decode cX11_isChange 30 = .ok (.iconst 1, 1) := by decide +kernel
theorem dX11_isChange_31 : decode cX11_isChange 31 = .ok (.goto 4, 3) := by decide +kernel
theorem dX11_isChange_34 : decode cX11_isChange 34 = .ok (.iconst 0, 1) := by decide +kernel
theorem dX11_isChange_35 : decode cX11_isChange 35 = .ok (.ireturn, 1) := by decide +kernel
theorem dX11_isValueOf_0 : decode cX11_isValueOf 0 = .ok (.iload_n 1, 1) := by decide +kernel
theorem dX11_isValueOf_1 : decode cX11_isValueOf 1 = .ok (.tableswitch 81 0 2 #[27, 43, 58], 27) := by decide +kernel
theorem dX11_isValueOf_28 : decode cX11_isValueOf 28 = .ok (.iload_n 2, 1) := by decide +kernel
theorem dX11_isValueOf_29 : decode cX11_isValueOf 29 = .ok (.ifCond .lt 13, 3) := by decide +kernel
theorem dX11_isValueOf_32 : decode cX11_isValueOf 32 = .ok (.iload_n 2, 1) := by decide +kernel
theorem dX11_isValueOf_33 : decode cX11_isValueOf 33 = .ok (.bipush 9, 2) := by decide +kernel
theorem dX11_isValueOf_35 : decode cX11_isValueOf 35 = .ok (.if_icmp .gt 7, 3) := by decide +kernel
theorem dX11_isValueOf_38 : decode cX11_isValueOf 38 = .ok (.iconst 1, 1) := by decide +kernel
theorem dX11_isValueOf_39 : decode cX11_isValueOf 39 = .ok (.goto 4, 3) := by decide +kernel
theorem dX11_isValueOf_42 : decode cX11_isValueOf 42 = .ok (.iconst 0, 1) := by decide +kernel
theorem dX11_isValueOf_43 : decode cX11_isValueOf 43 = .ok (.ireturn, 1) := by decide +kernel
theorem dX11_isValueOf_44 : decode cX11_isValueOf 44 = .ok (.iload_n 2, 1) := by decide +kernel
theorem dX11_isValueOf_45 : decode cX11_isValueOf 45 = .ok (.ifCond .eq 8, 3) := by decide +kernel
theorem dX11_isValueOf_48 : decode cX11_isValueOf 48 = .ok (.iload_n 2, 1) := by decide +kernel
theorem dX11_isValueOf_49 : decode cX11_isValueOf 49 = .ok (.iconst 1, 1) := by decide +kernel
theorem dX11_isValueOf_50 : decode cX11_isValueOf 50 = .ok (.if_icmp .ne 7, 3) := by decide +kernel
theorem dX11_isValueOf_53 : decode cX11_isValueOf 53 = .ok (.iconst 1, 1) := by decide +kernel
theorem dX11_isValueOf_54 : decode cX11_isValueOf 54 = .ok (.goto 4, 3) := by decide +kernel
theorem dX11_isValueOf_57 : decode cX11_isValueOf 57 = .ok (.iconst 0, 1) := by decide +kernel
theorem dX11_isValueOf_58 : decode cX11_isValueOf 58 = .ok (.ireturn, 1) := by decide +kernel
theorem dX11_isValueOf_59 : decode cX11_isValueOf 59 = .ok (.iload_n 2, 1) := by decide +kernel
theorem dX11_isValueOf_60 : decode cX11_isValueOf 60 = .ok (.iconst (-1), 1) := by decide +kernel
theorem dX11_isValueOf_61 : decode cX11_isValueOf 61 = .ok (.if_icmp .eq 15, 3) := by decide +kernel
theorem dX11_isValueOf_64 : decode cX11_isValueOf 64 = .ok (.iload_n 2, 1) := by decide +kernel
theorem dX11_isValueOf_65 : decode cX11_isValueOf 65 = .ok (.invokestatic 89, 3) := by decide +kernel
theorem dX11_isValueOf_68 : decode cX11_isValueOf 68 = .ok (.ifCond .eq 12, 3) := by decide +kernel
theorem dX11_isValueOf_71 : decode cX11_isValueOf 71 = .ok (.iload_n 2, 1) := by decide +kernel
theorem dX11_isValueOf_72 : decode cX11_isValueOf 72 = .ok (.iload_n 0, 1) := by decide +kernel
theorem dX11_isValueOf_73 : decode cX11_isValueOf 73 = .ok (.if_icmp .eq 7, 3) := by decide +kernel
theorem dX11_isValueOf_76 : decode cX11_isValueOf 76 = .ok (.iconst 1, 1) := by decide +kernel
theorem dX11_isValueOf_77 : decode cX11_isValueOf 77 = .ok (.goto 4, 3) := by decide +kernel
theorem dX11_isValueOf_80 : decode cX11_isValueOf 80 = .ok (.iconst 0, 1) := by decide +kernel
theorem dX11_isValueOf_81 : decode cX11_isValueOf 81 = .ok (.ireturn, 1) := by decide +kernel
theorem dX11_isValueOf_82 : decode cX11_isValueOf 82 = .ok (.iconst 0, 1) := by decide +kernel
theorem dX11_isValueOf_83 : decode cX11_isValueOf 83 = .ok (.ireturn, 1) := by decide +kernel
theorem dX11_giveBirth_0 : decode cX11_giveBirth 0 = .ok (.iload_n 2, 1) := by decide +kernel
theorem dX11_giveBirth_1 : decode cX11_giveBirth 1 = .ok (.iload_n 3, 1) := by decide +kernel
theorem dX11_giveBirth_2 : decode cX11_giveBirth 2 = .ok (.iload 4, 2) := by decide +kernel
theorem dX11_giveBirth_4 : decode cX11_giveBirth 4 = .ok (.invokestatic 230, 3) := by decide +kernel
theorem dX11_giveBirth_7 : decode cX11_giveBirth 7 = .ok (.ifCond .ne 5, 3) := by decide +kernel
theorem dX11_giveBirth_10 : decode cX11_giveBirth 10 = .ok (.iconst (-1), 1) := by decide +kernel
theorem dX11_giveBirth_11 : decode cX11_giveBirth 11 = .ok (.ireturn, 1) := by decide +kernel
theorem dX11_giveBirth_12 : decode cX11_giveBirth 12 = .ok (.aload_n 0, 1) := by decide +kernel
theorem dX11_giveBirth_13 : decode cX11_giveBirth 13 = .ok (.getfield 10, 3) := by decide +kernel
theorem dX11_giveBirth_16 : decode cX11_giveBirth 16 = .ok (.iload_n 1, 1) := by decide +kernel
theorem dX11_giveBirth_17 : decode cX11_giveBirth 17 = .ok (.invokevirtual 119, 3) := by decide +kernel
theorem dX11_giveBirth_20 : decode cX11_giveBirth 20 = .ok (.ifCond .ne 6, 3) := by decide +kernel
theorem dX11_giveBirth_23 : decode cX11_giveBirth 23 = .ok (.bipush (-2), 2) := by decide +kernel
theorem dX11_giveBirth_25 : decode cX11_giveBirth 25 = .ok (.ireturn, 1) := by decide +kernel
theorem dX11_giveBirth_26 : decode cX11_giveBirth 26 = .ok (.aload_n 0, 1) := by decide +kernel
theorem dX11_giveBirth_27 : decode cX11_giveBirth 27 = .ok (.getfield 10, 3) := by decide +kernel
theorem dX11_giveBirth_30 : decode cX11_giveBirth 30 = .ok (.getfield 161, 3) := by decide +kernel
theorem dX11_giveBirth_33 : decode cX11_giveBirth 33 = .ok (.aload_n 0, 1) := by decide +kernel
theorem dX11_giveBirth_34 : decode cX11_giveBirth 34 = .ok (.getfield 10, 3) := by decide +kernel
theorem dX11_giveBirth_37 : decode cX11_giveBirth 37 = .ok (.getfield 122, 3) := by decide +kernel
theorem dX11_giveBirth_40 : decode cX11_giveBirth 40 = .ok (.iload_n 1, 1) := by decide +kernel
theorem dX11_giveBirth_41 : decode cX11_giveBirth 41 = .ok (.iaload, 1) := by decide +kernel
theorem dX11_giveBirth_42 : decode cX11_giveBirth 42 = .ok (.if_icmp .ge 6, 3) := by decide +kernel
theorem dX11_giveBirth_45 : decode cX11_giveBirth 45 = .ok (.bipush (-3), 2) := by decide +kernel
theorem dX11_giveBirth_47 : decode cX11_giveBirth 47 = .ok (.ireturn, 1) := by decide +kernel
theorem dX11_giveBirth_48 : decode cX11_giveBirth 48 = .ok (.aload_n 0, 1) := by decide +kernel
theorem dX11_giveBirth_49 : decode cX11_giveBirth 49 = .ok (.getfield 39, 3) := by decide +kernel
theorem dX11_giveBirth_52 : decode cX11_giveBirth 52 = .ok (.aload_n 0, 1) := by decide +kernel
theorem dX11_giveBirth_53 : decode cX11_giveBirth 53 = .ok (.getfield 10, 3) := by decide +kernel
theorem dX11_giveBirth_56 : decode cX11_giveBirth 56 = .ok (.getfield 161, 3) := by decide +kernel
theorem dX11_giveBirth_59 : decode cX11_giveBirth 59 = .ok (.invokevirtual 233, 3) := by decide +kernel
theorem dX11_giveBirth_62 : decode cX11_giveBirth 62 = .ok (.aload_n 0, 1) := by decide +kernel
theorem dX11_giveBirth_63 : decode cX11_giveBirth 63 = .ok (.getfield 48, 3) := by decide +kernel
theorem dX11_giveBirth_66 : decode cX11_giveBirth 66 = .ok (.aload_n 0, 1) := by decide +kernel
theorem dX11_giveBirth_67 : decode cX11_giveBirth 67 = .ok (.getfield 10, 3) := by decide +kernel
theorem dX11_giveBirth_70 : decode cX11_giveBirth 70 = .ok (.getfield 143, 3) := by decide +kernel
theorem dX11_giveBirth_73 : decode cX11_giveBirth 73 = .ok (.iload_n 1, 1) := by decide +kernel
theorem dX11_giveBirth_74 : decode cX11_giveBirth 74 = .ok (.iaload, 1) := by decide +kernel
theorem dX11_giveBirth_75 : decode cX11_giveBirth 75 = .ok (.invokevirtual 236, 3) := by decide +kernel
theorem dX11_giveBirth_78 : decode cX11_giveBirth 78 = .ok (.aload_n 0, 1) := by decide +kernel
theorem dX11_giveBirth_79 : decode cX11_giveBirth 79 = .ok (.getfield 48, 3) := by decide +kernel
theorem dX11_giveBirth_82 : decode cX11_giveBirth 82 = .ok (.iload_n 2, 1) := by decide +kernel
theorem dX11_giveBirth_83 : decode cX11_giveBirth 83 = .ok (.iload_n 3, 1) := by decide +kernel
theorem dX11_giveBirth_84 : decode cX11_giveBirth 84 = .ok (.iload 4, 2) := by decide +kernel
theorem dX11_giveBirth_86 : decode cX11_giveBirth 86 = .ok (.invokevirtual 239, 3) := by decide +kernel
theorem dX11_giveBirth_89 : decode cX11_giveBirth 89 = .ok (.istore 5, 2) := by decide +kernel
theorem dX11_giveBirth_91 : decode cX11_giveBirth 91 = .ok (.iload 5, 2) := by decide +kernel
theorem dX11_giveBirth_93 : decode cX11_giveBirth 93 = .ok (.iconst (-1), 1) := by decide +kernel
theorem dX11_giveBirth_94 : decode cX11_giveBirth 94 = .ok (.if_icmp .ne 8, 3) := by decide +kernel
theorem dX11_giveBirth_97 : decode cX11_giveBirth 97 = .ok (.bipush (-3), 2) := by decide +kernel
theorem dX11_giveBirth_99 : decode cX11_giveBirth 99 = .ok (.goto 20, 3) := by decide +kernel
theorem dX11_giveBirth_102 : decode cX11_giveBirth 102 = .ok (.aload_n 0, 1) := by decide +kernel
theorem dX11_giveBirth_103 : decode cX11_giveBirth 103 = .ok (.getfield 10, 3) := by decide +kernel
theorem dX11_giveBirth_106 : decode cX11_giveBirth 106 = .ok (.iload_n 1, 1) := by decide +kernel
theorem dX11_giveBirth_107 : decode cX11_giveBirth 107 = .ok (.aload_n 0, 1) := by decide +kernel
theorem dX11_giveBirth_108 : decode cX11_giveBirth 108 = .ok (.getfield 10, 3) := by decide +kernel
theorem dX11_giveBirth_111 : decode cX11_giveBirth 111 = .ok (.getfield 161, 3) := by decide +kernel
theorem dX11_giveBirth_114 : decode cX11_giveBirth 114 = .ok (.iload 5, 2) := by decide +kernel
theorem dX11_giveBirth_116 : decode cX11_giveBirth 116 = .ok (.invokevirtual 125, 3) := by decide +kernel
theorem dX11_giveBirth_119 : decode cX11_giveBirth 119 = .ok (.ireturn, 1) := by decide +kernel
theorem dX11_keepsCustom_0 : decode cX11_keepsCustom 0 = .ok (.aload_n 0, 1) := by decide +kernel
theorem dX11_keepsCustom_1 : decode cX11_keepsCustom 1 = .ok (.getfield 10, 3) := by decide +kernel
theorem dX11_keepsCustom_4 : decode cX11_keepsCustom 4 = .ok (.getfield 149, 3) := by decide +kernel
theorem dX11_keepsCustom_7 : decode cX11_keepsCustom 7 = .ok (.iload_n 1, 1) := by decide +kernel
theorem dX11_keepsCustom_8 : decode cX11_keepsCustom 8 = .ok (.iaload, 1) := by decide +kernel
theorem dX11_keepsCustom_9 : decode cX11_keepsCustom 9 = .ok (.istore_n 2, 1) := by decide +kernel
theorem dX11_keepsCustom_10 : decode cX11_keepsCustom 10 = .ok (.aload_n 0, 1) := by decide +kernel
theorem dX11_keepsCustom_11 : decode cX11_keepsCustom 11 = .ok (.getfield 10, 3) := by decide +kernel
theorem dX11_keepsCustom_14 : decode cX11_keepsCustom 14 = .ok (.iload_n 2, 1) := by decide +kernel
theorem dX11_keepsCustom_15 : decode cX11_keepsCustom 15 = .ok (.invokevirtual 119, 3) := by decide +kernel
theorem dX11_keepsCustom_18 : decode cX11_keepsCustom 18 = .ok (.ifCond .ne 5, 3) := by decide +kernel
theorem dX11_keepsCustom_21 : decode cX11_keepsCustom 21 = .ok (.iconst 0, 1) := by decide +kernel
theorem dX11_keepsCustom_22 : decode cX11_keepsCustom 22 = .ok (.ireturn, 1) := by decide +kernel
theorem dX11_keepsCustom_23 : decode cX11_keepsCustom 23 = .ok (.aload_n 0, 1) := by decide +kernel
theorem dX11_keepsCustom_24 : decode cX11_keepsCustom 24 = .ok (.getfield 39, 3) := by decide +kernel
theorem dX11_keepsCustom_27 : decode cX11_keepsCustom 27 = .ok (.aload_n 0, 1) := by decide +kernel
theorem dX11_keepsCustom_28 : decode cX11_keepsCustom 28 = .ok (.getfield 10, 3) := by decide +kernel
theorem dX11_keepsCustom_31 : decode cX11_keepsCustom 31 = .ok (.getfield 122, 3) := by decide +kernel
theorem dX11_keepsCustom_34 : decode cX11_keepsCustom 34 = .ok (.iload_n 1, 1) := by decide +kernel
theorem dX11_keepsCustom_35 : decode cX11_keepsCustom 35 = .ok (.iaload, 1) := by decide +kernel
theorem dX11_keepsCustom_36 : decode cX11_keepsCustom 36 = .ok (.invokevirtual 233, 3) := by decide +kernel
theorem dX11_keepsCustom_39 : decode cX11_keepsCustom 39 = .ok (.aload_n 0, 1) := by decide +kernel
theorem dX11_keepsCustom_40 : decode cX11_keepsCustom 40 = .ok (.getfield 48, 3) := by decide +kernel
theorem dX11_keepsCustom_43 : decode cX11_keepsCustom 43 = .ok (.aload_n 0, 1) := by decide +kernel
theorem dX11_keepsCustom_44 : decode cX11_keepsCustom 44 = .ok (.getfield 10, 3) := by decide +kernel
theorem dX11_keepsCustom_47 : decode cX11_keepsCustom 47 = .ok (.getfield 143, 3) := by decide +kernel
theorem dX11_keepsCustom_50 : decode cX11_keepsCustom 50 = .ok (.iload_n 2, 1) := by decide +kernel
theorem dX11_keepsCustom_51 : decode cX11_keepsCustom 51 = .ok (.iaload, 1) := by decide +kernel
theorem dX11_keepsCustom_52 : decode cX11_keepsCustom 52 = .ok (.invokevirtual 245, 3) := by decide +kernel
theorem dX11_keepsCustom_55 : decode cX11_keepsCustom 55 = .ok (.aload_n 0, 1) := by decide +kernel
theorem dX11_keepsCustom_56 : decode cX11_keepsCustom 56 = .ok (.getfield 48, 3) := by decide +kernel
theorem dX11_keepsCustom_59 : decode cX11_keepsCustom 59 = .ok (.aload_n 0, 1) := by decide +kernel
theorem dX11_keepsCustom_60 : decode cX11_keepsCustom 60 = .ok (.getfield 10, 3) := by decide +kernel
theorem dX11_keepsCustom_63 : decode cX11_keepsCustom 63 = .ok (.getfield 143, 3) := by decide +kernel
theorem dX11_keepsCustom_66 : decode cX11_keepsCustom 66 = .ok (.iload_n 1, 1) := by decide +kernel
theorem dX11_keepsCustom_67 : decode cX11_keepsCustom 67 = .ok (.iaload, 1) := by decide +kernel
theorem dX11_keepsCustom_68 : decode cX11_keepsCustom 68 = .ok (.invokevirtual 368, 3) := by decide +kernel
theorem dX11_keepsCustom_71 : decode cX11_keepsCustom 71 = .ok (.ireturn, 1) := by decide +kernel
theorem dX11_tellSteward_0 : decode cX11_tellSteward 0 = .ok (.aload_n 0, 1) := by decide +kernel
theorem dX11_tellSteward_1 : decode cX11_tellSteward 1 = .ok (.getfield 30, 3) := by decide +kernel
theorem dX11_tellSteward_4 : decode cX11_tellSteward 4 = .ok (.getfield 224, 3) := by decide +kernel
theorem dX11_tellSteward_7 : decode cX11_tellSteward 7 = .ok (.astore_n 1, 1) := by decide +kernel
theorem dX11_tellSteward_8 : decode cX11_tellSteward 8 = .ok (.aload_n 1, 1) := by decide +kernel
theorem dX11_tellSteward_9 : decode cX11_tellSteward 9 = .ok (.iconst (-1), 1) := by decide +kernel
theorem dX11_tellSteward_10 : decode cX11_tellSteward 10 = .ok (.invokestatic 371, 3) := by decide +kernel
theorem dX11_tellSteward_13 : decode cX11_tellSteward 13 = .ok (.aload_n 1, 1) := by decide +kernel
theorem dX11_tellSteward_14 : decode cX11_tellSteward 14 = .ok (.iconst 2, 1) := by decide +kernel
theorem dX11_tellSteward_15 : decode cX11_tellSteward 15 = .ok (.iconst 0, 1) := by decide +kernel
theorem dX11_tellSteward_16 : decode cX11_tellSteward 16 = .ok (.iastore, 1) := by decide +kernel
theorem dX11_tellSteward_17 : decode cX11_tellSteward 17 = .ok (.iconst 0, 1) := by decide +kernel
theorem dX11_tellSteward_18 : decode cX11_tellSteward 18 = .ok (.istore_n 2, 1) := by decide +kernel
theorem dX11_tellSteward_19 : decode cX11_tellSteward 19 = .ok (.iload_n 2, 1) := by decide +kernel
theorem dX11_tellSteward_20 : decode cX11_tellSteward 20 = .ok (.aload_n 0, 1) := by decide +kernel
theorem dX11_tellSteward_21 : decode cX11_tellSteward 21 = .ok (.getfield 10, 3) := by decide +kernel
theorem dX11_tellSteward_24 : decode cX11_tellSteward 24 = .ok (.getfield 136, 3) := by decide +kernel
theorem dX11_tellSteward_27 : decode cX11_tellSteward 27 = .ok (.if_icmp .ge 14, 3) := by decide +kernel
theorem dX11_tellSteward_30 : decode cX11_tellSteward 30 = .ok (.aload_n 0, 1) := by decide +kernel
theorem dX11_tellSteward_31 : decode cX11_tellSteward 31 = .ok (.iload_n 2, 1) := by decide +kernel
theorem dX11_tellSteward_32 : decode cX11_tellSteward 32 = .ok (.invokevirtual 377, 3) := by decide +kernel
theorem dX11_tellSteward_35 : decode cX11_tellSteward 35 = .ok (.iinc 2 1, 3) := by decide +kernel
theorem dX11_tellSteward_38 : decode cX11_tellSteward 38 = .ok (.goto (-19), 3) := by decide +kernel
theorem dX11_tellSteward_41 : decode cX11_tellSteward 41 = .ok (.return_, 1) := by decide +kernel
theorem dX11_tellHouse_0 : decode cX11_tellHouse 0 = .ok (.aload_n 0, 1) := by decide +kernel
theorem dX11_tellHouse_1 : decode cX11_tellHouse 1 = .ok (.getfield 10, 3) := by decide +kernel
theorem dX11_tellHouse_4 : decode cX11_tellHouse 4 = .ok (.iload_n 1, 1) := by decide +kernel
theorem dX11_tellHouse_5 : decode cX11_tellHouse 5 = .ok (.invokevirtual 119, 3) := by decide +kernel
theorem dX11_tellHouse_8 : decode cX11_tellHouse 8 = .ok (.ifCond .ne 4, 3) := by decide +kernel
theorem dX11_tellHouse_11 : decode cX11_tellHouse 11 = .ok (.return_, 1) := by decide +kernel
theorem dX11_tellHouse_12 : decode cX11_tellHouse 12 = .ok (.aload_n 0, 1) := by decide +kernel
theorem dX11_tellHouse_13 : decode cX11_tellHouse 13 = .ok (.getfield 30, 3) := by decide +kernel
theorem dX11_tellHouse_16 : decode cX11_tellHouse 16 = .ok (.getfield 224, 3) := by decide +kernel
theorem dX11_tellHouse_19 : decode cX11_tellHouse 19 = .ok (.iconst 4, 1) := by decide +kernel
theorem dX11_tellHouse_20 : decode cX11_tellHouse 20 = .ok (.iload_n 1, 1) := by decide +kernel
theorem dX11_tellHouse_21 : decode cX11_tellHouse 21 = .ok (.iadd, 1) := by decide +kernel
theorem dX11_tellHouse_22 : decode cX11_tellHouse 22 = .ok (.aload_n 0, 1) := by decide +kernel
theorem dX11_tellHouse_23 : decode cX11_tellHouse 23 = .ok (.getfield 10, 3) := by decide +kernel
theorem dX11_tellHouse_26 : decode cX11_tellHouse 26 = .ok (.getfield 143, 3) := by decide +kernel
theorem dX11_tellHouse_29 : decode cX11_tellHouse 29 = .ok (.iload_n 1, 1) := by decide +kernel
theorem dX11_tellHouse_30 : decode cX11_tellHouse 30 = .ok (.iaload, 1) := by decide +kernel
theorem dX11_tellHouse_31 : decode cX11_tellHouse 31 = .ok (.invokestatic 380, 3) := by decide +kernel
theorem dX11_tellHouse_34 : decode cX11_tellHouse 34 = .ok (.iastore, 1) := by decide +kernel
theorem dX11_tellHouse_35 : decode cX11_tellHouse 35 = .ok (.iconst 0, 1) := by decide +kernel
theorem dX11_tellHouse_36 : decode cX11_tellHouse 36 = .ok (.istore_n 2, 1) := by decide +kernel
theorem dX11_tellHouse_37 : decode cX11_tellHouse 37 = .ok (.iload_n 2, 1) := by decide +kernel
theorem dX11_tellHouse_38 : decode cX11_tellHouse 38 = .ok (.bipush 6, 2) := by decide +kernel
theorem dX11_tellHouse_40 : decode cX11_tellHouse 40 = .ok (.if_icmp .ge 35, 3) := by decide +kernel
theorem dX11_tellHouse_43 : decode cX11_tellHouse 43 = .ok (.aload_n 0, 1) := by decide +kernel
theorem dX11_tellHouse_44 : decode cX11_tellHouse 44 = .ok (.getfield 30, 3) := by decide +kernel
theorem dX11_tellHouse_47 : decode cX11_tellHouse 47 = .ok (.getfield 224, 3) := by decide +kernel
theorem dX11_tellHouse_50 : decode cX11_tellHouse 50 = .ok (.bipush 16, 2) := by decide +kernel
theorem dX11_tellHouse_52 : decode cX11_tellHouse 52 = .ok (.iload_n 1, 1) := by decide +kernel
theorem dX11_tellHouse_53 : decode cX11_tellHouse 53 = .ok (.bipush 6, 2) := by decide +kernel
theorem dX11_tellHouse_55 : decode cX11_tellHouse 55 = .ok (.imul, 1) := by decide +kernel
theorem dX11_tellHouse_56 : decode cX11_tellHouse 56 = .ok (.iadd, 1) := by decide +kernel
theorem dX11_tellHouse_57 : decode cX11_tellHouse 57 = .ok (.iload_n 2, 1) := by decide +kernel
theorem dX11_tellHouse_58 : decode cX11_tellHouse 58 = .ok (.iadd, 1) := by decide +kernel
theorem dX11_tellHouse_59 : decode cX11_tellHouse 59 = .ok (.aload_n 0, 1) := by decide +kernel
theorem dX11_tellHouse_60 : decode cX11_tellHouse 60 = .ok (.getfield 10, 3) := by decide +kernel
theorem dX11_tellHouse_63 : decode cX11_tellHouse 63 = .ok (.iload_n 1, 1) := by decide +kernel
theorem dX11_tellHouse_64 : decode cX11_tellHouse 64 = .ok (.iload_n 2, 1) := by decide +kernel
theorem dX11_tellHouse_65 : decode cX11_tellHouse 65 = .ok (.invokevirtual 337, 3) := by decide +kernel
theorem dX11_tellHouse_68 : decode cX11_tellHouse 68 = .ok (.iastore, 1) := by decide +kernel
theorem dX11_tellHouse_69 : decode cX11_tellHouse 69 = .ok (.iinc 2 1, 3) := by decide +kernel
theorem dX11_tellHouse_72 : decode cX11_tellHouse 72 = .ok (.goto (-35), 3) := by decide +kernel
theorem dX11_tellHouse_75 : decode cX11_tellHouse 75 = .ok (.return_, 1) := by decide +kernel
theorem dX11_runOnce_0 : decode cX11_runOnce 0 = .ok (.aload_n 0, 1) := by decide +kernel
theorem dX11_runOnce_1 : decode cX11_runOnce 1 = .ok (.getfield 30, 3) := by decide +kernel
theorem dX11_runOnce_4 : decode cX11_runOnce 4 = .ok (.getfield 224, 3) := by decide +kernel
theorem dX11_runOnce_7 : decode cX11_runOnce 7 = .ok (.astore_n 3, 1) := by decide +kernel
theorem dX11_runOnce_8 : decode cX11_runOnce 8 = .ok (.aload_n 3, 1) := by decide +kernel
theorem dX11_runOnce_9 : decode cX11_runOnce 9 = .ok (.iconst 0, 1) := by decide +kernel
theorem dX11_runOnce_10 : decode cX11_runOnce 10 = .ok (.aload_n 0, 1) := by decide +kernel
theorem dX11_runOnce_11 : decode cX11_runOnce 11 = .ok (.getfield 10, 3) := by decide +kernel
theorem dX11_runOnce_14 : decode cX11_runOnce 14 = .ok (.getfield 161, 3) := by decide +kernel
theorem dX11_runOnce_17 : decode cX11_runOnce 17 = .ok (.iastore, 1) := by decide +kernel
theorem dX11_runOnce_18 : decode cX11_runOnce 18 = .ok (.aload_n 3, 1) := by decide +kernel
theorem dX11_runOnce_19 : decode cX11_runOnce 19 = .ok (.iconst 1, 1) := by decide +kernel
theorem dX11_runOnce_20 : decode cX11_runOnce 20 = .ok (.aload_n 0, 1) := by decide +kernel
theorem dX11_runOnce_21 : decode cX11_runOnce 21 = .ok (.getfield 10, 3) := by decide +kernel
theorem dX11_runOnce_24 : decode cX11_runOnce 24 = .ok (.getfield 136, 3) := by decide +kernel
theorem dX11_runOnce_27 : decode cX11_runOnce 27 = .ok (.iastore, 1) := by decide +kernel
theorem dX11_runOnce_28 : decode cX11_runOnce 28 = .ok (.aload_n 1, 1) := by decide +kernel
theorem dX11_runOnce_29 : decode cX11_runOnce 29 = .ok (.iload_n 2, 1) := by decide +kernel
theorem dX11_runOnce_30 : decode cX11_runOnce 30 = .ok (.iconst 2, 1) := by decide +kernel
theorem dX11_runOnce_31 : decode cX11_runOnce 31 = .ok (.invokevirtual 217, 3) := by decide +kernel
theorem dX11_runOnce_34 : decode cX11_runOnce 34 = .ok (.istore 4, 2) := by decide +kernel
theorem dX11_runOnce_36 : decode cX11_runOnce 36 = .ok (.iload 4, 2) := by decide +kernel
theorem dX11_runOnce_38 : decode cX11_runOnce 38 = .ok (.iconst (-1), 1) := by decide +kernel
theorem dX11_runOnce_39 : decode cX11_runOnce 39 = .ok (.if_icmp .eq 23, 3) := by decide +kernel
theorem dX11_runOnce_42 : decode cX11_runOnce 42 = .ok (.aload_n 0, 1) := by decide +kernel
theorem dX11_runOnce_43 : decode cX11_runOnce 43 = .ok (.getfield 30, 3) := by decide +kernel
theorem dX11_runOnce_46 : decode cX11_runOnce 46 = .ok (.aload_n 1, 1) := by decide +kernel
theorem dX11_runOnce_47 : decode cX11_runOnce 47 = .ok (.getfield 383, 3) := by decide +kernel
theorem dX11_runOnce_50 : decode cX11_runOnce 50 = .ok (.iload 4, 2) := by decide +kernel
theorem dX11_runOnce_52 : decode cX11_runOnce 52 = .ok (.invokevirtual 386, 3) := by decide +kernel
theorem dX11_runOnce_55 : decode cX11_runOnce 55 = .ok (.lconst 1, 1) := by decide +kernel
theorem dX11_runOnce_56 : decode cX11_runOnce 56 = .ok (.lcmp, 1) := by decide +kernel
theorem dX11_runOnce_57 : decode cX11_runOnce 57 = .ok (.ifCond .eq 5, 3) := by decide +kernel
theorem dX11_runOnce_60 : decode cX11_runOnce 60 = .ok (.iconst 0, 1) := by decide +kernel
theorem dX11_runOnce_61 : decode cX11_runOnce 61 = .ok (.ireturn, 1) := by decide +kernel
theorem dX11_runOnce_62 : decode cX11_runOnce 62 = .ok (.aload_n 1, 1) := by decide +kernel
theorem dX11_runOnce_63 : decode cX11_runOnce 63 = .ok (.iload_n 2, 1) := by decide +kernel
theorem dX11_runOnce_64 : decode cX11_runOnce 64 = .ok (.iconst 0, 1) := by decide +kernel
theorem dX11_runOnce_65 : decode cX11_runOnce 65 = .ok (.invokevirtual 217, 3) := by decide +kernel
theorem dX11_runOnce_68 : decode cX11_runOnce 68 = .ok (.istore 5, 2) := by decide +kernel
theorem dX11_runOnce_70 : decode cX11_runOnce 70 = .ok (.aload_n 0, 1) := by decide +kernel
theorem dX11_runOnce_71 : decode cX11_runOnce 71 = .ok (.getfield 30, 3) := by decide +kernel
theorem dX11_runOnce_74 : decode cX11_runOnce 74 = .ok (.aload_n 1, 1) := by decide +kernel
theorem dX11_runOnce_75 : decode cX11_runOnce 75 = .ok (.getfield 383, 3) := by decide +kernel
theorem dX11_runOnce_78 : decode cX11_runOnce 78 = .ok (.aload_n 1, 1) := by decide +kernel
theorem dX11_runOnce_79 : decode cX11_runOnce 79 = .ok (.iload_n 2, 1) := by decide +kernel
theorem dX11_runOnce_80 : decode cX11_runOnce 80 = .ok (.iconst 3, 1) := by decide +kernel
theorem dX11_runOnce_81 : decode cX11_runOnce 81 = .ok (.invokevirtual 217, 3) := by decide +kernel
theorem dX11_runOnce_84 : decode cX11_runOnce 84 = .ok (.invokevirtual 386, 3) := by decide +kernel
theorem dX11_runOnce_87 : decode cX11_runOnce 87 = .ok (.lstore 6, 2) := by decide +kernel
theorem dX11_runOnce_89 : decode cX11_runOnce 89 = .ok (.iload 5, 2) := by decide +kernel
theorem dX11_runOnce_91 : decode cX11_runOnce 91 = .ok (.iconst 1, 1) := by decide +kernel
theorem dX11_runOnce_92 : decode cX11_runOnce 92 = .ok (.if_icmp .ne 23, 3) := by decide +kernel
theorem dX11_runOnce_95 : decode cX11_runOnce 95 = .ok (.aload_n 0, 1) := by decide +kernel
theorem dX11_runOnce_96 : decode cX11_runOnce 96 = .ok (.getfield 30, 3) := by decide +kernel
theorem dX11_runOnce_99 : decode cX11_runOnce 99 = .ok (.aload_n 1, 1) := by decide +kernel
theorem dX11_runOnce_100 : decode cX11_runOnce 100 = .ok (.getfield 383, 3) := by decide +kernel
theorem dX11_runOnce_103 : decode cX11_runOnce 103 = .ok (.aload_n 1, 1) := by decide +kernel
theorem dX11_runOnce_104 : decode cX11_runOnce 104 = .ok (.iload_n 2, 1) := by decide +kernel
theorem dX11_runOnce_105 : decode cX11_runOnce 105 = .ok (.iconst 4, 1) := by decide +kernel
theorem dX11_runOnce_106 : decode cX11_runOnce 106 = .ok (.invokevirtual 217, 3) := by decide +kernel
theorem dX11_runOnce_109 : decode cX11_runOnce 109 = .ok (.invokevirtual 386, 3) := by decide +kernel
theorem dX11_runOnce_112 : decode cX11_runOnce 112 = .ok (.goto 4, 3) := by decide +kernel
theorem dX11_runOnce_115 : decode cX11_runOnce 115 = .ok (.lconst 0, 1) := by decide +kernel
theorem dX11_runOnce_116 : decode cX11_runOnce 116 = .ok (.lstore 8, 2) := by decide +kernel
theorem dX11_runOnce_118 : decode cX11_runOnce 118 = .ok (.iload 5, 2) := by decide +kernel
theorem dX11_runOnce_120 : decode cX11_runOnce 120 = .ok (.iconst 5, 1) := by decide +kernel
theorem dX11_runOnce_121 : decode cX11_runOnce 121 = .ok (.if_icmp .ne 7, 3) := by decide +kernel
theorem dX11_runOnce_124 : decode cX11_runOnce 124 = .ok (.lconst 0, 1) := by decide +kernel
theorem dX11_runOnce_125 : decode cX11_runOnce 125 = .ok (.goto 20, 3) := by decide +kernel
theorem dX11_runOnce_128 : decode cX11_runOnce 128 = .ok (.aload_n 0, 1) := by decide +kernel
theorem dX11_runOnce_129 : decode cX11_runOnce 129 = .ok (.getfield 30, 3) := by decide +kernel
theorem dX11_runOnce_132 : decode cX11_runOnce 132 = .ok (.aload_n 1, 1) := by decide +kernel
theorem dX11_runOnce_133 : decode cX11_runOnce 133 = .ok (.getfield 383, 3) := by decide +kernel
theorem dX11_runOnce_136 : decode cX11_runOnce 136 = .ok (.aload_n 1, 1) := by decide +kernel
theorem dX11_runOnce_137 : decode cX11_runOnce 137 = .ok (.iload_n 2, 1) := by decide +kernel
theorem dX11_runOnce_138 : decode cX11_runOnce 138 = .ok (.iconst 5, 1) := by decide +kernel
theorem dX11_runOnce_139 : decode cX11_runOnce 139 = .ok (.invokevirtual 217, 3) := by decide +kernel
theorem dX11_runOnce_142 : decode cX11_runOnce 142 = .ok (.invokevirtual 386, 3) := by decide +kernel
theorem dX11_runOnce_145 : decode cX11_runOnce 145 = .ok (.lstore 10, 2) := by decide +kernel
theorem dX11_runOnce_147 : decode cX11_runOnce 147 = .ok (.lload 6, 2) := by decide +kernel
theorem dX11_runOnce_149 : decode cX11_runOnce 149 = .ok (.ldc2_w 390, 3) := by decide +kernel
theorem dX11_runOnce_152 : decode cX11_runOnce 152 = .ok (.lcmp, 1) := by decide +kernel
theorem dX11_runOnce_153 : decode cX11_runOnce 153 = .ok (.ifCond .eq 21, 3) := by decide +kernel
theorem dX11_runOnce_156 : decode cX11_runOnce 156 = .ok (.lload 8, 2) := by decide +kernel
theorem dX11_runOnce_158 : decode cX11_runOnce 158 = .ok (.ldc2_w 390, 3) := by decide +kernel
theorem dX11_runOnce_161 : decode cX11_runOnce 161 = .ok (.lcmp, 1) := by decide +kernel
theorem dX11_runOnce_162 : decode cX11_runOnce 162 = .ok (.ifCond .eq 12, 3) := by decide +kernel
theorem dX11_runOnce_165 : decode cX11_runOnce 165 = .ok (.lload 10, 2) := by decide +kernel
theorem dX11_runOnce_167 : decode cX11_runOnce 167 = .ok (.ldc2_w 390, 3) := by decide +kernel
theorem dX11_runOnce_170 : decode cX11_runOnce 170 = .ok (.lcmp, 1) := by decide +kernel
theorem dX11_runOnce_171 : decode cX11_runOnce 171 = .ok (.ifCond .ne 6, 3) := by decide +kernel
theorem dX11_runOnce_174 : decode cX11_runOnce 174 = .ok (.bipush (-3), 2) := by decide +kernel
theorem dX11_runOnce_176 : decode cX11_runOnce 176 = .ok (.ireturn, 1) := by decide +kernel
theorem dX11_runOnce_177 : decode cX11_runOnce 177 = .ok (.aload_n 3, 1) := by decide +kernel
theorem dX11_runOnce_178 : decode cX11_runOnce 178 = .ok (.iconst 2, 1) := by decide +kernel
theorem dX11_runOnce_179 : decode cX11_runOnce 179 = .ok (.dup2, 1) := by decide +kernel
theorem dX11_runOnce_180 : decode cX11_runOnce 180 = .ok (.iaload, 1) := by decide +kernel
theorem dX11_runOnce_181 : decode cX11_runOnce 181 = .ok (.iconst 1, 1) := by decide +kernel
theorem dX11_runOnce_182 : decode cX11_runOnce 182 = .ok (.iadd, 1) := by decide +kernel
theorem dX11_runOnce_183 : decode cX11_runOnce 183 = .ok (.iastore, 1) := by decide +kernel
theorem dX11_runOnce_184 : decode cX11_runOnce 184 = .ok (.iload 5, 2) := by decide +kernel
theorem dX11_runOnce_186 : decode cX11_runOnce 186 = .ok (.iconst 5, 1) := by decide +kernel
theorem dX11_runOnce_187 : decode cX11_runOnce 187 = .ok (.if_icmp .ne 11, 3) := by decide +kernel
theorem dX11_runOnce_190 : decode cX11_runOnce 190 = .ok (.aload_n 0, 1) := by decide +kernel
theorem dX11_runOnce_191 : decode cX11_runOnce 191 = .ok (.lload 6, 2) := by decide +kernel
theorem dX11_runOnce_193 : decode cX11_runOnce 193 = .ok (.l2i, 1) := by decide +kernel
theorem dX11_runOnce_194 : decode cX11_runOnce 194 = .ok (.invokevirtual 392, 3) := by decide +kernel
theorem dX11_runOnce_197 : decode cX11_runOnce 197 = .ok (.ireturn, 1) := by decide +kernel
theorem dX11_runOnce_198 : decode cX11_runOnce 198 = .ok (.aload_n 0, 1) := by decide +kernel
theorem dX11_runOnce_199 : decode cX11_runOnce 199 = .ok (.lload 6, 2) := by decide +kernel
theorem dX11_runOnce_201 : decode cX11_runOnce 201 = .ok (.l2i, 1) := by decide +kernel
theorem dX11_runOnce_202 : decode cX11_runOnce 202 = .ok (.iload 5, 2) := by decide +kernel
theorem dX11_runOnce_204 : decode cX11_runOnce 204 = .ok (.lload 10, 2) := by decide +kernel
theorem dX11_runOnce_206 : decode cX11_runOnce 206 = .ok (.l2i, 1) := by decide +kernel
theorem dX11_runOnce_207 : decode cX11_runOnce 207 = .ok (.lload 8, 2) := by decide +kernel
theorem dX11_runOnce_209 : decode cX11_runOnce 209 = .ok (.l2i, 1) := by decide +kernel
theorem dX11_runOnce_210 : decode cX11_runOnce 210 = .ok (.invokevirtual 132, 3) := by decide +kernel
theorem dX11_runOnce_213 : decode cX11_runOnce 213 = .ok (.istore 12, 2) := by decide +kernel
theorem dX11_runOnce_215 : decode cX11_runOnce 215 = .ok (.iload 12, 2) := by decide +kernel
theorem dX11_runOnce_217 : decode cX11_runOnce 217 = .ok (.ifCond .ge 18, 3) := by decide +kernel
theorem dX11_runOnce_220 : decode cX11_runOnce 220 = .ok (.iload 12, 2) := by decide +kernel
theorem dX11_runOnce_222 : decode cX11_runOnce 222 = .ok (.bipush (-5), 2) := by decide +kernel
theorem dX11_runOnce_224 : decode cX11_runOnce 224 = .ok (.if_icmp .ne 8, 3) := by decide +kernel
theorem dX11_runOnce_227 : decode cX11_runOnce 227 = .ok (.bipush (-5), 2) := by decide +kernel
theorem dX11_runOnce_229 : decode cX11_runOnce 229 = .ok (.goto 5, 3) := by decide +kernel
theorem dX11_runOnce_232 : decode cX11_runOnce 232 = .ok (.bipush (-3), 2) := by decide +kernel
theorem dX11_runOnce_234 : decode cX11_runOnce 234 = .ok (.ireturn, 1) := by decide +kernel
theorem dX11_runOnce_235 : decode cX11_runOnce 235 = .ok (.aload_n 3, 1) := by decide +kernel
theorem dX11_runOnce_236 : decode cX11_runOnce 236 = .ok (.iconst 3, 1) := by decide +kernel
theorem dX11_runOnce_237 : decode cX11_runOnce 237 = .ok (.aload_n 0, 1) := by decide +kernel
theorem dX11_runOnce_238 : decode cX11_runOnce 238 = .ok (.getfield 10, 3) := by decide +kernel
theorem dX11_runOnce_241 : decode cX11_runOnce 241 = .ok (.getfield 143, 3) := by decide +kernel
theorem dX11_runOnce_244 : decode cX11_runOnce 244 = .ok (.iload 12, 2) := by decide +kernel
theorem dX11_runOnce_246 : decode cX11_runOnce 246 = .ok (.iaload, 1) := by decide +kernel
theorem dX11_runOnce_247 : decode cX11_runOnce 247 = .ok (.invokestatic 146, 3) := by decide +kernel
theorem dX11_runOnce_250 : decode cX11_runOnce 250 = .ok (.iastore, 1) := by decide +kernel
theorem dX11_runOnce_251 : decode cX11_runOnce 251 = .ok (.aload_n 0, 1) := by decide +kernel
theorem dX11_runOnce_252 : decode cX11_runOnce 252 = .ok (.iload 12, 2) := by decide +kernel
theorem dX11_runOnce_254 : decode cX11_runOnce 254 = .ok (.invokevirtual 377, 3) := by decide +kernel
theorem dX11_runOnce_257 : decode cX11_runOnce 257 = .ok (.iconst 0, 1) := by decide +kernel
theorem dX11_runOnce_258 : decode cX11_runOnce 258 = .ok (.ireturn, 1) := by decide +kernel
theorem dX11_turnYear_0 : decode cX11_turnYear 0 = .ok (.iload_n 1, 1) := by decide +kernel
theorem dX11_turnYear_1 : decode cX11_turnYear 1 = .ok (.invokestatic 116, 3) := by decide +kernel
theorem dX11_turnYear_4 : decode cX11_turnYear 4 = .ok (.ifCond .ne 6, 3) := by decide +kernel
theorem dX11_turnYear_7 : decode cX11_turnYear 7 = .ok (.bipush (-3), 2) := by decide +kernel
theorem dX11_turnYear_9 : decode cX11_turnYear 9 = .ok (.ireturn, 1) := by decide +kernel
theorem dX11_turnYear_10 : decode cX11_turnYear 10 = .ok (.aload_n 0, 1) := by decide +kernel
theorem dX11_turnYear_11 : decode cX11_turnYear 11 = .ok (.getfield 10, 3) := by decide +kernel
theorem dX11_turnYear_14 : decode cX11_turnYear 14 = .ok (.iload_n 1, 1) := by decide +kernel
theorem dX11_turnYear_15 : decode cX11_turnYear 15 = .ok (.invokevirtual 164, 3) := by decide +kernel
theorem dX11_turnYear_18 : decode cX11_turnYear 18 = .ok (.iconst 0, 1) := by decide +kernel
theorem dX11_turnYear_19 : decode cX11_turnYear 19 = .ok (.ireturn, 1) := by decide +kernel
theorem dX12_lies_0 : decode cX12_lies 0 = .ok (.iload_n 0, 1) := by decide +kernel
theorem dX12_lies_1 : decode cX12_lies 1 = .ok (.iload_n 1, 1) := by decide +kernel
theorem dX12_lies_2 : decode cX12_lies 2 = .ok (.if_icmp .lt 12, 3) := by decide +kernel
theorem dX12_lies_5 : decode cX12_lies 5 = .ok (.iload_n 0, 1) := by decide +kernel
theorem dX12_lies_6 : decode cX12_lies 6 = .ok (.iload_n 2, 1) := by decide +kernel
theorem dX12_lies_7 : decode cX12_lies 7 = .ok (.if_icmp .gt 7, 3) := by decide +kernel
theorem dX12_lies_10 : decode cX12_lies 10 = .ok (.iconst 1, 1) := by decide +kernel
theorem dX12_lies_11 : decode cX12_lies 11 = .ok (.goto 4, 3) := by decide +kernel
theorem dX12_lies_14 : decode cX12_lies 14 = .ok (.iconst 0, 1) := by decide +kernel
theorem dX12_lies_15 : decode cX12_lies 15 = .ok (.ireturn, 1) := by decide +kernel
theorem dX12_refuses_0 : decode cX12_refuses 0 = .ok (.aload_n 0, 1) := by decide +kernel
theorem dX12_refuses_1 : decode cX12_refuses 1 = .ok (.iload_n 1, 1) := by decide +kernel
theorem dX12_refuses_2 : decode cX12_refuses 2 = .ok (.putfield 3, 3) := by decide +kernel
theorem dX12_refuses_5 : decode cX12_refuses 5 = .ok (.aload_n 0, 1) := by decide +kernel
theorem dX12_refuses_6 : decode cX12_refuses 6 = .ok (.getfield 7, 3) := by decide +kernel
theorem dX12_refuses_9 : decode cX12_refuses 9 = .ok (.iload_n 1, 1) := by decide +kernel
theorem dX12_refuses_10 : decode cX12_refuses 10 = .ok (.ineg, 1) := by decide +kernel
theorem dX12_refuses_11 : decode cX12_refuses 11 = .ok (.dup2, 1) := by decide +kernel
theorem dX12_refuses_12 : decode cX12_refuses 12 = .ok (.iaload, 1) := by decide +kernel
theorem dX12_refuses_13 : decode cX12_refuses 13 = .ok (.iconst 1, 1) := by decide +kernel
theorem dX12_refuses_14 : decode cX12_refuses 14 = .ok (.iadd, 1) := by decide +kernel
theorem dX12_refuses_15 : decode cX12_refuses 15 = .ok (.iastore, 1) := by decide +kernel
theorem dX12_refuses_16 : decode cX12_refuses 16 = .ok (.iload_n 1, 1) := by decide +kernel
theorem dX12_refuses_17 : decode cX12_refuses 17 = .ok (.ireturn, 1) := by decide +kernel
theorem dX12_good_0 : decode cX12_good 0 = .ok (.aload_n 0, 1) := by decide +kernel
theorem dX12_good_1 : decode cX12_good 1 = .ok (.iconst 0, 1) := by decide +kernel
theorem dX12_good_2 : decode cX12_good 2 = .ok (.putfield 3, 3) := by decide +kernel
theorem dX12_good_5 : decode cX12_good 5 = .ok (.aload_n 0, 1) := by decide +kernel
theorem dX12_good_6 : decode cX12_good 6 = .ok (.dup, 1) := by decide +kernel
theorem dX12_good_7 : decode cX12_good 7 = .ok (.getfield 11, 3) := by decide +kernel
theorem dX12_good_10 : decode cX12_good 10 = .ok (.iconst 1, 1) := by decide +kernel
theorem dX12_good_11 : decode cX12_good 11 = .ok (.iadd, 1) := by decide +kernel
theorem dX12_good_12 : decode cX12_good 12 = .ok (.putfield 11, 3) := by decide +kernel
theorem dX12_good_15 : decode cX12_good 15 = .ok (.iload_n 1, 1) := by decide +kernel
theorem dX12_good_16 : decode cX12_good 16 = .ok (.ireturn, 1) := by decide +kernel
theorem dX12_isOne_0 : decode cX12_isOne 0 = .ok (.iload_n 0, 1) := by decide +kernel
theorem dX12_isOne_1 : decode cX12_isOne 1 = .ok (.iload_n 1, 1) := by decide +kernel
theorem dX12_isOne_2 : decode cX12_isOne 2 = .ok (.ishr, 1) := by decide +kernel
theorem dX12_isOne_3 : decode cX12_isOne 3 = .ok (.iconst 1, 1) := by decide +kernel
theorem dX12_isOne_4 : decode cX12_isOne 4 = .ok (.iand, 1) := by decide +kernel
theorem dX12_isOne_5 : decode cX12_isOne 5 = .ok (.iconst 1, 1) := by decide +kernel
theorem dX12_isOne_6 : decode cX12_isOne 6 = .ok (.if_icmp .ne 7, 3) := by decide +kernel
theorem dX12_isOne_9 : decode cX12_isOne 9 = .ok (.iconst 1, 1) := by decide +kernel
theorem dX12_isOne_10 : decode cX12_isOne 10 = .ok (.goto 4, 3) := by decide +kernel
theorem dX12_isOne_13 : decode cX12_isOne 13 = .ok (.iconst 0, 1) := by decide +kernel
theorem dX12_isOne_14 : decode cX12_isOne 14 = .ok (.ireturn, 1) := by decide +kernel
theorem dX12_ones_0 : decode cX12_ones 0 = .ok (.iconst 0, 1) := by decide +kernel
theorem dX12_ones_1 : decode cX12_ones 1 = .ok (.istore_n 1, 1) := by decide +kernel
theorem dX12_ones_2 : decode cX12_ones 2 = .ok (.iconst 0, 1) := by decide +kernel
theorem dX12_ones_3 : decode cX12_ones 3 = .ok (.istore_n 2, 1) := by decide +kernel
theorem dX12_ones_4 : decode cX12_ones 4 = .ok (.iload_n 2, 1) := by decide +kernel
theorem dX12_ones_5 : decode cX12_ones 5 = .ok (.bipush 12, 2) := by decide +kernel
theorem dX12_ones_7 : decode cX12_ones 7 = .ok (.if_icmp .ge 17, 3) := by decide +kernel
theorem dX12_ones_10 : decode cX12_ones 10 = .ok (.iload_n 1, 1) := by decide +kernel
theorem dX12_ones_11 : decode cX12_ones 11 = .ok (.iload_n 0, 1) := by decide +kernel
theorem dX12_ones_12 : decode cX12_ones 12 = .ok (.iload_n 2, 1) := by decide +kernel
theorem dX12_ones_13 : decode cX12_ones 13 = .ok (.ishr, 1) := by decide +kernel
theorem dX12_ones_14 : decode cX12_ones 14 = .ok (.iconst 1, 1) := by decide +kernel
theorem dX12_ones_15 : decode cX12_ones 15 = .ok (.iand, 1) := by decide +kernel
theorem dX12_ones_16 : decode cX12_ones 16 = .ok (.iadd, 1) := by decide +kernel
theorem dX12_ones_17 : decode cX12_ones 17 = .ok (.istore_n 1, 1) := by decide +kernel
theorem dX12_ones_18 : decode cX12_ones 18 = .ok (.iinc 2 1, 3) := by decide +kernel
theorem dX12_ones_21 : decode cX12_ones 21 = .ok (.goto (-17), 3) := by decide +kernel
theorem dX12_ones_24 : decode cX12_ones 24 = .ok (.iload_n 1, 1) := by decide +kernel
theorem dX12_ones_25 : decode cX12_ones 25 = .ok (.ireturn, 1) := by decide +kernel
theorem dX12_init_0 : decode cX12_init 0 = .ok (.aload_n 0, 1) := by decide +kernel
theorem dX12_init_1 : decode cX12_init 1 = .ok (.invokespecial 14, 3) := by decide +kernel
theorem dX12_init_4 : decode cX12_init 4 = .ok (.aload_n 0, 1) := by decide +kernel
theorem dX12_init_5 : decode cX12_init 5 = .ok (.bipush 7, 2) := by decide +kernel
theorem dX12_init_7 : decode cX12_init 7 = .ok (.newarray .int, 2) := by decide +kernel
theorem dX12_init_9 : decode cX12_init 9 = .ok (.putfield 7, 3) := by decide +kernel
theorem dX12_init_12 : decode cX12_init 12 = .ok (.aload_n 0, 1) := by decide +kernel
theorem dX12_init_13 : decode cX12_init 13 = .ok (.sipush 5666, 3) := by decide +kernel
theorem dX12_init_16 : decode cX12_init 16 = .ok (.newarray .int, 2) := by decide +kernel
theorem dX12_init_18 : decode cX12_init 18 = .ok (.putfield 20, 3) := by decide +kernel
theorem dX12_init_21 : decode cX12_init 21 = .ok (.aload_n 0, 1) := by decide +kernel
theorem dX12_init_22 : decode cX12_init 22 = .ok (.sipush 11332, 3) := by decide +kernel
theorem dX12_init_25 : decode cX12_init 25 = .ok (.newarray .int, 2) := by decide +kernel
theorem dX12_init_27 : decode cX12_init 27 = .ok (.putfield 23, 3) := by decide +kernel
theorem dX12_init_30 : decode cX12_init 30 = .ok (.aload_n 0, 1) := by decide +kernel
theorem dX12_init_31 : decode cX12_init 31 = .ok (.iconst 2, 1) := by decide +kernel
theorem dX12_init_32 : decode cX12_init 32 = .ok (.newarray .boolean, 2) := by decide +kernel
theorem dX12_init_34 : decode cX12_init 34 = .ok (.putfield 26, 3) := by decide +kernel
theorem dX12_init_37 : decode cX12_init 37 = .ok (.aload_n 0, 1) := by decide +kernel
theorem dX12_init_38 : decode cX12_init 38 = .ok (.bipush 7, 2) := by decide +kernel
theorem dX12_init_40 : decode cX12_init 40 = .ok (.newarray .int, 2) := by decide +kernel
theorem dX12_init_42 : decode cX12_init 42 = .ok (.putfield 30, 3) := by decide +kernel
theorem dX12_init_45 : decode cX12_init 45 = .ok (.aload_n 0, 1) := by decide +kernel
theorem dX12_init_46 : decode cX12_init 46 = .ok (.bipush 46, 2) := by decide +kernel
theorem dX12_init_48 : decode cX12_init 48 = .ok (.newarray .int, 2) := by decide +kernel
theorem dX12_init_50 : decode cX12_init 50 = .ok (.putfield 33, 3) := by decide +kernel
theorem dX12_init_53 : decode cX12_init 53 = .ok (.aload_n 0, 1) := by decide +kernel
theorem dX12_init_54 : decode cX12_init 54 = .ok (.bipush 46, 2) := by decide +kernel
theorem dX12_init_56 : decode cX12_init 56 = .ok (.newarray .int, 2) := by decide +kernel
theorem dX12_init_58 : decode cX12_init 58 = .ok (.putfield 36, 3) := by decide +kernel
theorem dX12_init_61 : decode cX12_init 61 = .ok (.aload_n 0, 1) := by decide +kernel
theorem dX12_init_62 : decode cX12_init 62 = .ok (.sipush 130, 3) := by decide +kernel
theorem dX12_init_65 : decode cX12_init 65 = .ok (.newarray .byte, 2) := by decide +kernel
theorem dX12_init_67 : decode cX12_init 67 = .ok (.dup, 1) := by decide +kernel
theorem dX12_init_68 : decode cX12_init 68 = .ok (.iconst 0, 1) := by decide +kernel
theorem dX12_init_69 : decode cX12_init 69 = .ok (.bipush 119, 2) := by decide +kernel
theorem dX12_init_71 : decode cX12_init 71 = .ok (.bastore, 1) := by decide +kernel
theorem dX12_init_72 : decode cX12_init 72 = .ok (.dup, 1) := by decide +kernel
theorem dX12_init_73 : decode cX12_init 73 = .ok (.iconst 1, 1) := by decide +kernel
theorem dX12_init_74 : decode cX12_init 74 = .ok (.bipush 101, 2) := by decide +kernel
theorem dX12_init_76 : decode cX12_init 76 = .ok (.bastore, 1) := by decide +kernel
theorem dX12_init_77 : decode cX12_init 77 = .ok (.dup, 1) := by decide +kernel
theorem dX12_init_78 : decode cX12_init 78 = .ok (.iconst 2, 1) := by decide +kernel
theorem dX12_init_79 : decode cX12_init 79 = .ok (.bipush 105, 2) := by decide +kernel
theorem dX12_init_81 : decode cX12_init 81 = .ok (.bastore, 1) := by decide +kernel
theorem dX12_init_82 : decode cX12_init 82 = .ok (.dup, 1) := by decide +kernel
theorem dX12_init_83 : decode cX12_init 83 = .ok (.iconst 3, 1) := by decide +kernel
theorem dX12_init_84 : decode cX12_init 84 = .ok (.bipush 103, 2) := by decide +kernel
theorem dX12_init_86 : decode cX12_init 86 = .ok (.bastore, 1) := by decide +kernel
theorem dX12_init_87 : decode cX12_init 87 = .ok (.dup, 1) := by decide +kernel
theorem dX12_init_88 : decode cX12_init 88 = .ok (.iconst 4, 1) := by decide +kernel
theorem dX12_init_89 : decode cX12_init 89 = .ok (.bipush 104, 2) := by decide +kernel
theorem dX12_init_91 : decode cX12_init 91 = .ok (.bastore, 1) := by decide +kernel
theorem dX12_init_92 : decode cX12_init 92 = .ok (.dup, 1) := by decide +kernel
theorem dX12_init_93 : decode cX12_init 93 = .ok (.iconst 5, 1) := by decide +kernel
theorem dX12_init_94 : decode cX12_init 94 = .ok (.bipush 115, 2) := by decide +kernel
theorem dX12_init_96 : decode cX12_init 96 = .ok (.bastore, 1) := by decide +kernel
theorem dX12_init_97 : decode cX12_init 97 = .ok (.dup, 1) := by decide +kernel
theorem dX12_init_98 : decode cX12_init 98 = .ok (.bipush 6, 2) := by decide +kernel
theorem dX12_init_100 : decode cX12_init 100 = .ok (.bipush 32, 2) := by decide +kernel
theorem dX12_init_102 : decode cX12_init 102 = .ok (.bastore, 1) := by decide +kernel
theorem dX12_init_103 : decode cX12_init 103 = .ok (.dup, 1) := by decide +kernel
theorem dX12_init_104 : decode cX12_init 104 = .ok (.bipush 7, 2) := by decide +kernel
theorem dX12_init_106 : decode cX12_init 106 = .ok (.bipush 98, 2) := by decide +kernel
theorem dX12_init_108 : decode cX12_init 108 = .ok (.bastore, 1) := by decide +kernel
theorem dX12_init_109 : decode cX12_init 109 = .ok (.dup, 1) := by decide +kernel
theorem dX12_init_110 : decode cX12_init 110 = .ok (.bipush 8, 2) := by decide +kernel
theorem dX12_init_112 : decode cX12_init 112 = .ok (.bipush 97, 2) := by decide +kernel
theorem dX12_init_114 : decode cX12_init 114 = .ok (.bastore, 1) := by decide +kernel
theorem dX12_init_115 : decode cX12_init 115 = .ok (.dup, 1) := by decide +kernel
theorem dX12_init_116 : decode cX12_init 116 = .ok (.bipush 9, 2) := by decide +kernel
theorem dX12_init_118 : decode cX12_init 118 = .ok (.bipush 114, 2) := by decide +kernel
theorem dX12_init_120 : decode cX12_init 120 = .ok (.bastore, 1) := by decide +kernel
theorem dX12_init_121 : decode cX12_init 121 = .ok (.dup, 1) := by decide +kernel
theorem dX12_init_122 : decode cX12_init 122 = .ok (.bipush 10, 2) := by decide +kernel
theorem dX12_init_124 : decode cX12_init 124 = .ok (.bipush 115, 2) := by decide +kernel
theorem dX12_init_126 : decode cX12_init 126 = .ok (.bastore, 1) := by decide +kernel
theorem dX12_init_127 : decode cX12_init 127 = .ok (.dup, 1) := by decide +kernel
theorem dX12_init_128 : decode cX12_init 128 = .ok (.bipush 11, 2) := by decide +kernel
theorem dX12_init_130 : decode cX12_init 130 = .ok (.bipush 32, 2) := by decide +kernel
theorem dX12_init_132 : decode cX12_init 132 = .ok (.bastore, 1) := by decide +kernel
theorem dX12_init_133 : decode cX12_init 133 = .ok (.dup, 1) := by decide +kernel
theorem dX12_init_134 : decode cX12_init 134 = .ok (.bipush 12, 2) := by decide +kernel
theorem dX12_init_136 : decode cX12_init 136 = .ok (.bipush 105, 2) := by decide +kernel
theorem dX12_init_138 : decode cX12_init 138 = .ok (.bastore, 1) := by decide +kernel
theorem dX12_init_139 : decode cX12_init 139 = .ok (.dup, 1) := by decide +kernel
theorem dX12_init_140 : decode cX12_init 140 = .ok (.bipush 13, 2) := by decide +kernel
theorem dX12_init_142 : decode cX12_init 142 = .ok (.bipush 102, 2) := by decide +kernel
theorem dX12_init_144 : decode cX12_init 144 = .ok (.bastore, 1) := by decide +kernel
theorem dX12_init_145 : decode cX12_init 145 = .ok (.dup, 1) := by decide +kernel
theorem dX12_init_146 : decode cX12_init 146 = .ok (.bipush 14, 2) := by decide +kernel
theorem dX12_init_148 : decode cX12_init 148 = .ok (.bipush 32, 2) := by decide +kernel
theorem dX12_init_150 : decode cX12_init 150 = .ok (.bastore, 1) := by decide +kernel
theorem dX12_init_151 : decode cX12_init 151 = .ok (.dup, 1) := by decide +kernel
theorem dX12_init_152 : decode cX12_init 152 = .ok (.bipush 15, 2) := by decide +kernel
theorem dX12_init_154 : decode cX12_init 154 = .ok (.bipush 111, 2) := by decide +kernel
theorem dX12_init_156 : decode cX12_init 156 = .ok (.bastore, 1) := by decide +kernel
theorem dX12_init_157 : decode cX12_init 157 = .ok (.dup, 1) := by decide +kernel
theorem dX12_init_158 : decode cX12_init 158 = .ok (.bipush 16, 2) := by decide +kernel
theorem dX12_init_160 : decode cX12_init 160 = .ok (.bipush 114, 2) := by decide +kernel
theorem dX12_init_162 : decode cX12_init 162 = .ok (.bastore, 1) := by decide +kernel
theorem dX12_init_163 : decode cX12_init 163 = .ok (.dup, 1) := by decide +kernel
theorem dX12_init_164 : decode cX12_init 164 = .ok (.bipush 17, 2) := by decide +kernel
theorem dX12_init_166 : decode cX12_init 166 = .ok (.bipush 32, 2) := by decide +kernel
theorem dX12_init_168 : decode cX12_init 168 = .ok (.bastore, 1) := by decide +kernel
theorem dX12_init_169 : decode cX12_init 169 = .ok (.dup, 1) := by decide +kernel
theorem dX12_init_170 : decode cX12_init 170 = .ok (.bipush 18, 2) := by decide +kernel
theorem dX12_init_172 : decode cX12_init 172 = .ok (.bipush 97, 2) := by decide +kernel
theorem dX12_init_174 : decode cX12_init 174 = .ok (.bastore, 1) := by decide +kernel
theorem dX12_init_175 : decode cX12_init 175 = .ok (.dup, 1) := by decide +kernel
theorem dX12_init_176 : decode cX12_init 176 = .ok (.bipush 19, 2) := by decide +kernel
theorem dX12_init_178 : decode cX12_init 178 = .ok (.bipush 110, 2) := by decide +kernel
theorem dX12_init_180 : decode cX12_init 180 = .ok (.bastore, 1) := by decide +kernel
theorem dX12_init_181 : decode cX12_init 181 = .ok (.dup, 1) := by decide +kernel
theorem dX12_init_182 : decode cX12_init 182 = .ok (.bipush 20, 2) := by decide +kernel
theorem dX12_init_184 : decode cX12_init 184 = .ok (.bipush 100, 2) := by decide +kernel
theorem dX12_init_186 : decode cX12_init 186 = .ok (.bastore, 1) := by decide +kernel
theorem dX12_init_187 : decode cX12_init 187 = .ok (.dup, 1) := by decide +kernel
theorem dX12_init_188 : decode cX12_init 188 = .ok (.bipush 21, 2) := by decide +kernel
theorem dX12_init_190 : decode cX12_init 190 = .ok (.bipush 32, 2) := by decide +kernel
theorem dX12_init_192 : decode cX12_init 192 = .ok (.bastore, 1) := by decide +kernel
theorem dX12_init_193 : decode cX12_init 193 = .ok (.dup, 1) := by decide +kernel
theorem dX12_init_194 : decode cX12_init 194 = .ok (.bipush 22, 2) := by decide +kernel
theorem dX12_init_196 : decode cX12_init 196 = .ok (.bipush 110, 2) := by decide +kernel
theorem dX12_init_198 : decode cX12_init 198 = .ok (.bastore, 1) := by decide +kernel
theorem dX12_init_199 : decode cX12_init 199 = .ok (.dup, 1) := by decide +kernel
theorem dX12_init_200 : decode cX12_init 200 = .ok (.bipush 23, 2) := by decide +kernel
theorem dX12_init_202 : decode cX12_init 202 = .ok (.bipush 111, 2) := by decide +kernel
theorem dX12_init_204 : decode cX12_init 204 = .ok (.bastore, 1) := by decide +kernel
theorem dX12_init_205 : decode cX12_init 205 = .ok (.dup, 1) := by decide +kernel
theorem dX12_init_206 : decode cX12_init 206 = .ok (.bipush 24, 2) := by decide +kernel
theorem dX12_init_208 : decode cX12_init 208 = .ok (.bipush 116, 2) := by decide +kernel
theorem dX12_init_210 : decode cX12_init 210 = .ok (.bastore, 1) := by decide +kernel
theorem dX12_init_211 : decode cX12_init 211 = .ok (.dup, 1) := by decide +kernel
theorem dX12_init_212 : decode cX12_init 212 = .ok (.bipush 25, 2) := by decide +kernel
theorem dX12_init_214 : decode cX12_init 214 = .ok (.bipush 32, 2) := by decide +kernel
theorem dX12_init_216 : decode cX12_init 216 = .ok (.bastore, 1) := by decide +kernel
theorem dX12_init_217 : decode cX12_init 217 = .ok (.dup, 1) := by decide +kernel
theorem dX12_init_218 : decode cX12_init 218 = .ok (.bipush 26, 2) := by decide +kernel
theorem dX12_init_220 : decode cX12_init 220 = .ok (.bipush 115, 2) := by decide +kernel
theorem dX12_init_222 : decode cX12_init 222 = .ok (.bastore, 1) := by decide +kernel
theorem dX12_init_223 : decode cX12_init 223 = .ok (.dup, 1) := by decide +kernel
theorem dX12_init_224 : decode cX12_init 224 = .ok (.bipush 27, 2) := by decide +kernel
