theorem dX5_setSteps_24 : decode cX5_setSteps 24 = .ok (.getfield 15, 3) := by decide +kernel
theorem dX5_setSteps_27 : decode cX5_setSteps 27 = .ok (.iload 4, 2) := by decide +kernel
theorem dX5_setSteps_29 : decode cX5_setSteps 29 = .ok (.iload_n 3, 1) := by decide +kernel
theorem dX5_setSteps_30 : decode cX5_setSteps 30 = .ok (.iconst (-1), 1) := by decide +kernel
theorem dX5_setSteps_31 : decode cX5_setSteps 31 = .ok (.if_icmp .ne 8, 3) := by decide +kernel
theorem dX5_setSteps_34 : decode cX5_setSteps 34 = .ok (.ldc 43, 2) := by decide +kernel
theorem dX5_setSteps_36 : decode cX5_setSteps 36 = .ok (.goto 4, 3) := by decide +kernel
theorem dX5_setSteps_39 : decode cX5_setSteps 39 = .ok (.iload_n 3, 1) := by decide +kernel
theorem dX5_setSteps_40 : decode cX5_setSteps 40 = .ok (.iastore, 1) := by decide +kernel
theorem dX5_setSteps_41 : decode cX5_setSteps 41 = .ok (.return_, 1) := by decide +kernel
theorem dX5_bestMother_0 : decode cX5_bestMother 0 = .ok (.iload_n 1, 1) := by decide +kernel
theorem dX5_bestMother_1 : decode cX5_bestMother 1 = .ok (.ifCond .lt 11, 3) := by decide +kernel
theorem dX5_bestMother_4 : decode cX5_bestMother 4 = .ok (.iload_n 1, 1) := by decide +kernel
theorem dX5_bestMother_5 : decode cX5_bestMother 5 = .ok (.aload_n 0, 1) := by decide +kernel
theorem dX5_bestMother_6 : decode cX5_bestMother 6 = .ok (.getfield 40, 3) := by decide +kernel
theorem dX5_bestMother_9 : decode cX5_bestMother 9 = .ok (.if_icmp .lt 5, 3) := by decide +kernel
theorem dX5_bestMother_12 : decode cX5_bestMother 12 = .ok (.iconst (-1), 1) := by decide +kernel
theorem dX5_bestMother_13 : decode cX5_bestMother 13 = .ok (.ireturn, 1) := by decide +kernel
theorem dX5_bestMother_14 : decode cX5_bestMother 14 = .ok (.aload_n 0, 1) := by decide +kernel
theorem dX5_bestMother_15 : decode cX5_bestMother 15 = .ok (.getfield 21, 3) := by decide +kernel
theorem dX5_bestMother_18 : decode cX5_bestMother 18 = .ok (.iload_n 1, 1) := by decide +kernel
theorem dX5_bestMother_19 : decode cX5_bestMother 19 = .ok (.iaload, 1) := by decide +kernel
theorem dX5_bestMother_20 : decode cX5_bestMother 20 = .ok (.iconst (-1), 1) := by decide +kernel
theorem dX5_bestMother_21 : decode cX5_bestMother 21 = .ok (.if_icmp .ne 8, 3) := by decide +kernel
theorem dX5_bestMother_24 : decode cX5_bestMother 24 = .ok (.bipush 100, 2) := by decide +kernel
theorem dX5_bestMother_26 : decode cX5_bestMother 26 = .ok (.goto 13, 3) := by decide +kernel
theorem dX5_bestMother_29 : decode cX5_bestMother 29 = .ok (.aload_n 0, 1) := by decide +kernel
theorem dX5_bestMother_30 : decode cX5_bestMother 30 = .ok (.aload_n 0, 1) := by decide +kernel
theorem dX5_bestMother_31 : decode cX5_bestMother 31 = .ok (.getfield 21, 3) := by decide +kernel
theorem dX5_bestMother_34 : decode cX5_bestMother 34 = .ok (.iload_n 1, 1) := by decide +kernel
theorem dX5_bestMother_35 : decode cX5_bestMother 35 = .ok (.iaload, 1) := by decide +kernel
theorem dX5_bestMother_36 : decode cX5_bestMother 36 = .ok (.invokevirtual 44, 3) := by decide +kernel
theorem dX5_bestMother_39 : decode cX5_bestMother 39 = .ok (.ireturn, 1) := by decide +kernel
theorem dX5_search_0 : decode cX5_search 0 = .ok (.aload_n 0, 1) := by decide +kernel
theorem dX5_search_1 : decode cX5_search 1 = .ok (.iconst 0, 1) := by decide +kernel
theorem dX5_search_2 : decode cX5_search 2 = .ok (.putfield 48, 3) := by decide +kernel
theorem dX5_search_5 : decode cX5_search 5 = .ok (.aload_n 0, 1) := by decide +kernel
theorem dX5_search_6 : decode cX5_search 6 = .ok (.invokevirtual 51, 3) := by decide +kernel
theorem dX5_search_9 : decode cX5_search 9 = .ok (.aload_n 0, 1) := by decide +kernel
theorem dX5_search_10 : decode cX5_search 10 = .ok (.invokevirtual 54, 3) := by decide +kernel
theorem dX5_search_13 : decode cX5_search 13 = .ok (.aload_n 0, 1) := by decide +kernel
theorem dX5_search_14 : decode cX5_search 14 = .ok (.aload_n 0, 1) := by decide +kernel
theorem dX5_search_15 : decode cX5_search 15 = .ok (.getfield 24, 3) := by decide +kernel
theorem dX5_search_18 : decode cX5_search 18 = .ok (.iconst 1, 1) := by decide +kernel
theorem dX5_search_19 : decode cX5_search 19 = .ok (.aload_n 0, 1) := by decide +kernel
theorem dX5_search_20 : decode cX5_search 20 = .ok (.getfield 40, 3) := by decide +kernel
theorem dX5_search_23 : decode cX5_search 23 = .ok (.ishl, 1) := by decide +kernel
theorem dX5_search_24 : decode cX5_search 24 = .ok (.iconst 1, 1) := by decide +kernel
theorem dX5_search_25 : decode cX5_search 25 = .ok (.isub, 1) := by decide +kernel
theorem dX5_search_26 : decode cX5_search 26 = .ok (.iaload, 1) := by decide +kernel
theorem dX5_search_27 : decode cX5_search 27 = .ok (.putfield 57, 3) := by decide +kernel
theorem dX5_search_30 : decode cX5_search 30 = .ok (.aload_n 0, 1) := by decide +kernel
theorem dX5_search_31 : decode cX5_search 31 = .ok (.getfield 57, 3) := by decide +kernel
theorem dX5_search_34 : decode cX5_search 34 = .ok (.ldc 43, 2) := by decide +kernel
theorem dX5_search_36 : decode cX5_search 36 = .ok (.if_icmp .ge 10, 3) := by decide +kernel
theorem dX5_search_39 : decode cX5_search 39 = .ok (.aload_n 0, 1) := by decide +kernel
theorem dX5_search_40 : decode cX5_search 40 = .ok (.iconst 0, 1) := by decide +kernel
theorem dX5_search_41 : decode cX5_search 41 = .ok (.iconst (-1), 1) := by decide +kernel
theorem dX5_search_42 : decode cX5_search 42 = .ok (.iconst 0, 1) := by decide +kernel
theorem dX5_search_43 : decode cX5_search 43 = .ok (.invokevirtual 60, 3) := by decide +kernel
theorem dX5_search_46 : decode cX5_search 46 = .ok (.return_, 1) := by decide +kernel
theorem dX5_workFewest_0 : decode cX5_workFewest 0 = .ok (.iconst 1, 1) := by decide +kernel
theorem dX5_workFewest_1 : decode cX5_workFewest 1 = .ok (.istore_n 1, 1) := by decide +kernel
theorem dX5_workFewest_2 : decode cX5_workFewest 2 = .ok (.iload_n 1, 1) := by decide +kernel
theorem dX5_workFewest_3 : decode cX5_workFewest 3 = .ok (.iconst 1, 1) := by decide +kernel
theorem dX5_workFewest_4 : decode cX5_workFewest 4 = .ok (.aload_n 0, 1) := by decide +kernel
theorem dX5_workFewest_5 : decode cX5_workFewest 5 = .ok (.getfield 40, 3) := by decide +kernel
theorem dX5_workFewest_8 : decode cX5_workFewest 8 = .ok (.ishl, 1) := by decide +kernel
theorem dX5_workFewest_9 : decode cX5_workFewest 9 = .ok (.if_icmp .ge 90, 3) := by decide +kernel
theorem dX5_workFewest_12 : decode cX5_workFewest 12 = .ok (.aload_n 0, 1) := by decide +kernel
theorem dX5_workFewest_13 : decode cX5_workFewest 13 = .ok (.getfield 24, 3) := by decide +kernel
theorem dX5_workFewest_16 : decode cX5_workFewest 16 = .ok (.iload_n 1, 1) := by decide +kernel
theorem dX5_workFewest_17 : decode cX5_workFewest 17 = .ok (.iload_n 1, 1) := by decide +kernel
theorem dX5_workFewest_18 : decode cX5_workFewest 18 = .ok (.invokestatic 64, 3) := by decide +kernel
theorem dX5_workFewest_21 : decode cX5_workFewest 21 = .ok (.iconst 1, 1) := by decide +kernel
theorem dX5_workFewest_22 : decode cX5_workFewest 22 = .ok (.if_icmp .ne 7, 3) := by decide +kernel
theorem dX5_workFewest_25 : decode cX5_workFewest 25 = .ok (.iconst 0, 1) := by decide +kernel
theorem dX5_workFewest_26 : decode cX5_workFewest 26 = .ok (.goto 5, 3) := by decide +kernel
theorem dX5_workFewest_29 : decode cX5_workFewest 29 = .ok (.ldc 43, 2) := by decide +kernel
theorem dX5_workFewest_31 : decode cX5_workFewest 31 = .ok (.iastore, 1) := by decide +kernel
theorem dX5_workFewest_32 : decode cX5_workFewest 32 = .ok (.iconst 0, 1) := by decide +kernel
theorem dX5_workFewest_33 : decode cX5_workFewest 33 = .ok (.istore_n 2, 1) := by decide +kernel
theorem dX5_workFewest_34 : decode cX5_workFewest 34 = .ok (.iload_n 2, 1) := by decide +kernel
theorem dX5_workFewest_35 : decode cX5_workFewest 35 = .ok (.aload_n 0, 1) := by decide +kernel
theorem dX5_workFewest_36 : decode cX5_workFewest 36 = .ok (.getfield 40, 3) := by decide +kernel
theorem dX5_workFewest_39 : decode cX5_workFewest 39 = .ok (.if_icmp .ge 54, 3) := by decide +kernel
theorem dX5_workFewest_42 : decode cX5_workFewest 42 = .ok (.iload_n 1, 1) := by decide +kernel
theorem dX5_workFewest_43 : decode cX5_workFewest 43 = .ok (.iconst 1, 1) := by decide +kernel
theorem dX5_workFewest_44 : decode cX5_workFewest 44 = .ok (.iload_n 2, 1) := by decide +kernel
theorem dX5_workFewest_45 : decode cX5_workFewest 45 = .ok (.ishl, 1) := by decide +kernel
theorem dX5_workFewest_46 : decode cX5_workFewest 46 = .ok (.iconst (-1), 1) := by decide +kernel
theorem dX5_workFewest_47 : decode cX5_workFewest 47 = .ok (.ixor, 1) := by decide +kernel
theorem dX5_workFewest_48 : decode cX5_workFewest 48 = .ok (.iand, 1) := by decide +kernel
theorem dX5_workFewest_49 : decode cX5_workFewest 49 = .ok (.istore_n 3, 1) := by decide +kernel
theorem dX5_workFewest_50 : decode cX5_workFewest 50 = .ok (.iload_n 3, 1) := by decide +kernel
theorem dX5_workFewest_51 : decode cX5_workFewest 51 = .ok (.iload_n 1, 1) := by decide +kernel
theorem dX5_workFewest_52 : decode cX5_workFewest 52 = .ok (.if_icmp .eq 35, 3) := by decide +kernel
theorem dX5_workFewest_55 : decode cX5_workFewest 55 = .ok (.iload_n 3, 1) := by decide +kernel
theorem dX5_workFewest_56 : decode cX5_workFewest 56 = .ok (.ifCond .eq 31, 3) := by decide +kernel
theorem dX5_workFewest_59 : decode cX5_workFewest 59 = .ok (.aload_n 0, 1) := by decide +kernel
theorem dX5_workFewest_60 : decode cX5_workFewest 60 = .ok (.getfield 24, 3) := by decide +kernel
theorem dX5_workFewest_63 : decode cX5_workFewest 63 = .ok (.iload_n 1, 1) := by decide +kernel
theorem dX5_workFewest_64 : decode cX5_workFewest 64 = .ok (.aload_n 0, 1) := by decide +kernel
theorem dX5_workFewest_65 : decode cX5_workFewest 65 = .ok (.getfield 24, 3) := by decide +kernel
theorem dX5_workFewest_68 : decode cX5_workFewest 68 = .ok (.iload_n 1, 1) := by decide +kernel
theorem dX5_workFewest_69 : decode cX5_workFewest 69 = .ok (.iaload, 1) := by decide +kernel
theorem dX5_workFewest_70 : decode cX5_workFewest 70 = .ok (.aload_n 0, 1) := by decide +kernel
theorem dX5_workFewest_71 : decode cX5_workFewest 71 = .ok (.getfield 24, 3) := by decide +kernel
theorem dX5_workFewest_74 : decode cX5_workFewest 74 = .ok (.iload_n 3, 1) := by decide +kernel
theorem dX5_workFewest_75 : decode cX5_workFewest 75 = .ok (.iaload, 1) := by decide +kernel
theorem dX5_workFewest_76 : decode cX5_workFewest 76 = .ok (.aload_n 0, 1) := by decide +kernel
theorem dX5_workFewest_77 : decode cX5_workFewest 77 = .ok (.iload_n 3, 1) := by decide +kernel
theorem dX5_workFewest_78 : decode cX5_workFewest 78 = .ok (.iload_n 2, 1) := by decide +kernel
theorem dX5_workFewest_79 : decode cX5_workFewest 79 = .ok (.invokevirtual 69, 3) := by decide +kernel
theorem dX5_workFewest_82 : decode cX5_workFewest 82 = .ok (.iadd, 1) := by decide +kernel
theorem dX5_workFewest_83 : decode cX5_workFewest 83 = .ok (.invokestatic 73, 3) := by decide +kernel
theorem dX5_workFewest_86 : decode cX5_workFewest 86 = .ok (.iastore, 1) := by decide +kernel
theorem dX5_workFewest_87 : decode cX5_workFewest 87 = .ok (.iinc 2 1, 3) := by decide +kernel
theorem dX5_workFewest_90 : decode cX5_workFewest 90 = .ok (.goto (-56), 3) := by decide +kernel
theorem dX5_workFewest_93 : decode cX5_workFewest 93 = .ok (.iinc 1 1, 3) := by decide +kernel
theorem dX5_workFewest_96 : decode cX5_workFewest 96 = .ok (.goto (-94), 3) := by decide +kernel
theorem dX5_workFewest_99 : decode cX5_workFewest 99 = .ok (.return_, 1) := by decide +kernel
theorem dX5_nearest_0 : decode cX5_nearest 0 = .ok (.ldc 43, 2) := by decide +kernel
theorem dX5_nearest_2 : decode cX5_nearest 2 = .ok (.istore_n 3, 1) := by decide +kernel
theorem dX5_nearest_3 : decode cX5_nearest 3 = .ok (.iconst 0, 1) := by decide +kernel
theorem dX5_nearest_4 : decode cX5_nearest 4 = .ok (.istore 4, 2) := by decide +kernel
theorem dX5_nearest_6 : decode cX5_nearest 6 = .ok (.iload 4, 2) := by decide +kernel
theorem dX5_nearest_8 : decode cX5_nearest 8 = .ok (.aload_n 0, 1) := by decide +kernel
theorem dX5_nearest_9 : decode cX5_nearest 9 = .ok (.getfield 40, 3) := by decide +kernel
theorem dX5_nearest_12 : decode cX5_nearest 12 = .ok (.if_icmp .ge 36, 3) := by decide +kernel
theorem dX5_nearest_15 : decode cX5_nearest 15 = .ok (.iload_n 1, 1) := by decide +kernel
theorem dX5_nearest_16 : decode cX5_nearest 16 = .ok (.iload 4, 2) := by decide +kernel
theorem dX5_nearest_18 : decode cX5_nearest 18 = .ok (.ishr, 1) := by decide +kernel
theorem dX5_nearest_19 : decode cX5_nearest 19 = .ok (.iconst 1, 1) := by decide +kernel
theorem dX5_nearest_20 : decode cX5_nearest 20 = .ok (.iand, 1) := by decide +kernel
theorem dX5_nearest_21 : decode cX5_nearest 21 = .ok (.iconst 1, 1) := by decide +kernel
theorem dX5_nearest_22 : decode cX5_nearest 22 = .ok (.if_icmp .ne 20, 3) := by decide +kernel
theorem dX5_nearest_25 : decode cX5_nearest 25 = .ok (.iload_n 3, 1) := by decide +kernel
theorem dX5_nearest_26 : decode cX5_nearest 26 = .ok (.aload_n 0, 1) := by decide +kernel
theorem dX5_nearest_27 : decode cX5_nearest 27 = .ok (.getfield 15, 3) := by decide +kernel
theorem dX5_nearest_30 : decode cX5_nearest 30 = .ok (.iload 4, 2) := by decide +kernel
theorem dX5_nearest_32 : decode cX5_nearest 32 = .ok (.bipush 6, 2) := by decide +kernel
theorem dX5_nearest_34 : decode cX5_nearest 34 = .ok (.imul, 1) := by decide +kernel
theorem dX5_nearest_35 : decode cX5_nearest 35 = .ok (.iload_n 2, 1) := by decide +kernel
theorem dX5_nearest_36 : decode cX5_nearest 36 = .ok (.iadd, 1) := by decide +kernel
theorem dX5_nearest_37 : decode cX5_nearest 37 = .ok (.iaload, 1) := by decide +kernel
theorem dX5_nearest_38 : decode cX5_nearest 38 = .ok (.invokestatic 73, 3) := by decide +kernel
theorem dX5_nearest_41 : decode cX5_nearest 41 = .ok (.istore_n 3, 1) := by decide +kernel
theorem dX5_nearest_42 : decode cX5_nearest 42 = .ok (.iinc 4 1, 3) := by decide +kernel
theorem dX5_nearest_45 : decode cX5_nearest 45 = .ok (.goto (-39), 3) := by decide +kernel
theorem dX5_nearest_48 : decode cX5_nearest 48 = .ok (.iload_n 3, 1) := by decide +kernel
theorem dX5_nearest_49 : decode cX5_nearest 49 = .ok (.ireturn, 1) := by decide +kernel
theorem dX5_workFloor_0 : decode cX5_workFloor 0 = .ok (.iconst 1, 1) := by decide +kernel
theorem dX5_workFloor_1 : decode cX5_workFloor 1 = .ok (.aload_n 0, 1) := by decide +kernel
theorem dX5_workFloor_2 : decode cX5_workFloor 2 = .ok (.getfield 40, 3) := by decide +kernel
theorem dX5_workFloor_5 : decode cX5_workFloor 5 = .ok (.ishl, 1) := by decide +kernel
theorem dX5_workFloor_6 : decode cX5_workFloor 6 = .ok (.iconst 1, 1) := by decide +kernel
theorem dX5_workFloor_7 : decode cX5_workFloor 7 = .ok (.isub, 1) := by decide +kernel
theorem dX5_workFloor_8 : decode cX5_workFloor 8 = .ok (.istore_n 1, 1) := by decide +kernel
theorem dX5_workFloor_9 : decode cX5_workFloor 9 = .ok (.aload_n 0, 1) := by decide +kernel
theorem dX5_workFloor_10 : decode cX5_workFloor 10 = .ok (.getfield 27, 3) := by decide +kernel
theorem dX5_workFloor_13 : decode cX5_workFloor 13 = .ok (.aload_n 0, 1) := by decide +kernel
theorem dX5_workFloor_14 : decode cX5_workFloor 14 = .ok (.getfield 40, 3) := by decide +kernel
theorem dX5_workFloor_17 : decode cX5_workFloor 17 = .ok (.iconst 0, 1) := by decide +kernel
theorem dX5_workFloor_18 : decode cX5_workFloor 18 = .ok (.iastore, 1) := by decide +kernel
theorem dX5_workFloor_19 : decode cX5_workFloor 19 = .ok (.aload_n 0, 1) := by decide +kernel
theorem dX5_workFloor_20 : decode cX5_workFloor 20 = .ok (.getfield 30, 3) := by decide +kernel
theorem dX5_workFloor_23 : decode cX5_workFloor 23 = .ok (.aload_n 0, 1) := by decide +kernel
theorem dX5_workFloor_24 : decode cX5_workFloor 24 = .ok (.getfield 40, 3) := by decide +kernel
theorem dX5_workFloor_27 : decode cX5_workFloor 27 = .ok (.iconst 0, 1) := by decide +kernel
theorem dX5_workFloor_28 : decode cX5_workFloor 28 = .ok (.iastore, 1) := by decide +kernel
theorem dX5_workFloor_29 : decode cX5_workFloor 29 = .ok (.aload_n 0, 1) := by decide +kernel
theorem dX5_workFloor_30 : decode cX5_workFloor 30 = .ok (.getfield 40, 3) := by decide +kernel
theorem dX5_workFloor_33 : decode cX5_workFloor 33 = .ok (.iconst 1, 1) := by decide +kernel
theorem dX5_workFloor_34 : decode cX5_workFloor 34 = .ok (.isub, 1) := by decide +kernel
theorem dX5_workFloor_35 : decode cX5_workFloor 35 = .ok (.istore_n 2, 1) := by decide +kernel
theorem dX5_workFloor_36 : decode cX5_workFloor 36 = .ok (.iload_n 2, 1) := by decide +kernel
theorem dX5_workFloor_37 : decode cX5_workFloor 37 = .ok (.ifCond .lt 56, 3) := by decide +kernel
theorem dX5_workFloor_40 : decode cX5_workFloor 40 = .ok (.aload_n 0, 1) := by decide +kernel
theorem dX5_workFloor_41 : decode cX5_workFloor 41 = .ok (.iload_n 1, 1) := by decide +kernel
theorem dX5_workFloor_42 : decode cX5_workFloor 42 = .ok (.iconst 1, 1) := by decide +kernel
theorem dX5_workFloor_43 : decode cX5_workFloor 43 = .ok (.iload_n 2, 1) := by decide +kernel
theorem dX5_workFloor_44 : decode cX5_workFloor 44 = .ok (.ishl, 1) := by decide +kernel
theorem dX5_workFloor_45 : decode cX5_workFloor 45 = .ok (.iconst (-1), 1) := by decide +kernel
theorem dX5_workFloor_46 : decode cX5_workFloor 46 = .ok (.ixor, 1) := by decide +kernel
theorem dX5_workFloor_47 : decode cX5_workFloor 47 = .ok (.iand, 1) := by decide +kernel
theorem dX5_workFloor_48 : decode cX5_workFloor 48 = .ok (.iload_n 2, 1) := by decide +kernel
theorem dX5_workFloor_49 : decode cX5_workFloor 49 = .ok (.invokevirtual 69, 3) := by decide +kernel
theorem dX5_workFloor_52 : decode cX5_workFloor 52 = .ok (.istore_n 3, 1) := by decide +kernel
theorem dX5_workFloor_53 : decode cX5_workFloor 53 = .ok (.aload_n 0, 1) := by decide +kernel
theorem dX5_workFloor_54 : decode cX5_workFloor 54 = .ok (.getfield 27, 3) := by decide +kernel
theorem dX5_workFloor_57 : decode cX5_workFloor 57 = .ok (.iload_n 2, 1) := by decide +kernel
theorem dX5_workFloor_58 : decode cX5_workFloor 58 = .ok (.aload_n 0, 1) := by decide +kernel
theorem dX5_workFloor_59 : decode cX5_workFloor 59 = .ok (.getfield 27, 3) := by decide +kernel
theorem dX5_workFloor_62 : decode cX5_workFloor 62 = .ok (.iload_n 2, 1) := by decide +kernel
theorem dX5_workFloor_63 : decode cX5_workFloor 63 = .ok (.iconst 1, 1) := by decide +kernel
theorem dX5_workFloor_64 : decode cX5_workFloor 64 = .ok (.iadd, 1) := by decide +kernel
theorem dX5_workFloor_65 : decode cX5_workFloor 65 = .ok (.iaload, 1) := by decide +kernel
theorem dX5_workFloor_66 : decode cX5_workFloor 66 = .ok (.iload_n 3, 1) := by decide +kernel
theorem dX5_workFloor_67 : decode cX5_workFloor 67 = .ok (.iadd, 1) := by decide +kernel
theorem dX5_workFloor_68 : decode cX5_workFloor 68 = .ok (.iastore, 1) := by decide +kernel
theorem dX5_workFloor_69 : decode cX5_workFloor 69 = .ok (.aload_n 0, 1) := by decide +kernel
theorem dX5_workFloor_70 : decode cX5_workFloor 70 = .ok (.getfield 30, 3) := by decide +kernel
theorem dX5_workFloor_73 : decode cX5_workFloor 73 = .ok (.iload_n 2, 1) := by decide +kernel
theorem dX5_workFloor_74 : decode cX5_workFloor 74 = .ok (.aload_n 0, 1) := by decide +kernel
theorem dX5_workFloor_75 : decode cX5_workFloor 75 = .ok (.getfield 30, 3) := by decide +kernel
theorem dX5_workFloor_78 : decode cX5_workFloor 78 = .ok (.iload_n 2, 1) := by decide +kernel
theorem dX5_workFloor_79 : decode cX5_workFloor 79 = .ok (.iconst 1, 1) := by decide +kernel
theorem dX5_workFloor_80 : decode cX5_workFloor 80 = .ok (.iadd, 1) := by decide +kernel
theorem dX5_workFloor_81 : decode cX5_workFloor 81 = .ok (.iaload, 1) := by decide +kernel
theorem dX5_workFloor_82 : decode cX5_workFloor 82 = .ok (.iload_n 3, 1) := by decide +kernel
theorem dX5_workFloor_83 : decode cX5_workFloor 83 = .ok (.invokestatic 78, 3) := by decide +kernel
theorem dX5_workFloor_86 : decode cX5_workFloor 86 = .ok (.iastore, 1) := by decide +kernel
theorem dX5_workFloor_87 : decode cX5_workFloor 87 = .ok (.iinc 2 (-1), 3) := by decide +kernel
theorem dX5_workFloor_90 : decode cX5_workFloor 90 = .ok (.goto (-54), 3) := by decide +kernel
theorem dX5_workFloor_93 : decode cX5_workFloor 93 = .ok (.return_, 1) := by decide +kernel
theorem dX5_seek_0 : decode cX5_seek 0 = .ok (.iload_n 1, 1) := by decide +kernel
theorem dX5_seek_1 : decode cX5_seek 1 = .ok (.aload_n 0, 1) := by decide +kernel
theorem dX5_seek_2 : decode cX5_seek 2 = .ok (.getfield 40, 3) := by decide +kernel
theorem dX5_seek_5 : decode cX5_seek 5 = .ok (.if_icmp .lt 21, 3) := by decide +kernel
theorem dX5_seek_8 : decode cX5_seek 8 = .ok (.iload_n 2, 1) := by decide +kernel
theorem dX5_seek_9 : decode cX5_seek 9 = .ok (.iconst (-1), 1) := by decide +kernel
theorem dX5_seek_10 : decode cX5_seek 10 = .ok (.if_icmp .eq 15, 3) := by decide +kernel
theorem dX5_seek_13 : decode cX5_seek 13 = .ok (.iload_n 3, 1) := by decide +kernel
theorem dX5_seek_14 : decode cX5_seek 14 = .ok (.aload_n 0, 1) := by decide +kernel
theorem dX5_seek_15 : decode cX5_seek 15 = .ok (.getfield 57, 3) := by decide +kernel
theorem dX5_seek_18 : decode cX5_seek 18 = .ok (.if_icmp .ne 7, 3) := by decide +kernel
theorem dX5_seek_21 : decode cX5_seek 21 = .ok (.aload_n 0, 1) := by decide +kernel
theorem dX5_seek_22 : decode cX5_seek 22 = .ok (.invokevirtual 81, 3) := by decide +kernel
theorem dX5_seek_25 : decode cX5_seek 25 = .ok (.return_, 1) := by decide +kernel
theorem dX5_seek_26 : decode cX5_seek 26 = .ok (.aload_n 0, 1) := by decide +kernel
theorem dX5_seek_27 : decode cX5_seek 27 = .ok (.getfield 57, 3) := by decide +kernel
theorem dX5_seek_30 : decode cX5_seek 30 = .ok (.iload_n 3, 1) := by decide +kernel
theorem dX5_seek_31 : decode cX5_seek 31 = .ok (.isub, 1) := by decide +kernel
theorem dX5_seek_32 : decode cX5_seek 32 = .ok (.aload_n 0, 1) := by decide +kernel
theorem dX5_seek_33 : decode cX5_seek 33 = .ok (.getfield 27, 3) := by decide +kernel
theorem dX5_seek_36 : decode cX5_seek 36 = .ok (.iload_n 1, 1) := by decide +kernel
theorem dX5_seek_37 : decode cX5_seek 37 = .ok (.iaload, 1) := by decide +kernel
theorem dX5_seek_38 : decode cX5_seek 38 = .ok (.isub, 1) := by decide +kernel
theorem dX5_seek_39 : decode cX5_seek 39 = .ok (.iload_n 2, 1) := by decide +kernel
theorem dX5_seek_40 : decode cX5_seek 40 = .ok (.iconst (-1), 1) := by decide +kernel
theorem dX5_seek_41 : decode cX5_seek 41 = .ok (.if_icmp .ne 12, 3) := by decide +kernel
theorem dX5_seek_44 : decode cX5_seek 44 = .ok (.aload_n 0, 1) := by decide +kernel
theorem dX5_seek_45 : decode cX5_seek 45 = .ok (.getfield 30, 3) := by decide +kernel
theorem dX5_seek_48 : decode cX5_seek 48 = .ok (.iload_n 1, 1) := by decide +kernel
theorem dX5_seek_49 : decode cX5_seek 49 = .ok (.iaload, 1) := by decide +kernel
theorem dX5_seek_50 : decode cX5_seek 50 = .ok (.goto 4, 3) := by decide +kernel
theorem dX5_seek_53 : decode cX5_seek 53 = .ok (.iconst 0, 1) := by decide +kernel
theorem dX5_seek_54 : decode cX5_seek 54 = .ok (.iadd, 1) := by decide +kernel
theorem dX5_seek_55 : decode cX5_seek 55 = .ok (.istore 4, 2) := by decide +kernel
theorem dX5_seek_57 : decode cX5_seek 57 = .ok (.iload 4, 2) := by decide +kernel
theorem dX5_seek_59 : decode cX5_seek 59 = .ok (.ifCond .ge 4, 3) := by decide +kernel
theorem dX5_seek_62 : decode cX5_seek 62 = .ok (.return_, 1) := by decide +kernel
theorem dX5_seek_63 : decode cX5_seek 63 = .ok (.iload_n 2, 1) := by decide +kernel
theorem dX5_seek_64 : decode cX5_seek 64 = .ok (.iconst (-1), 1) := by decide +kernel
theorem dX5_seek_65 : decode cX5_seek 65 = .ok (.if_icmp .ne 19, 3) := by decide +kernel
theorem dX5_seek_68 : decode cX5_seek 68 = .ok (.aload_n 0, 1) := by decide +kernel
theorem dX5_seek_69 : decode cX5_seek 69 = .ok (.getfield 18, 3) := by decide +kernel
theorem dX5_seek_72 : decode cX5_seek 72 = .ok (.iload_n 1, 1) := by decide +kernel
theorem dX5_seek_73 : decode cX5_seek 73 = .ok (.iconst (-1), 1) := by decide +kernel
theorem dX5_seek_74 : decode cX5_seek 74 = .ok (.iastore, 1) := by decide +kernel
theorem dX5_seek_75 : decode cX5_seek 75 = .ok (.aload_n 0, 1) := by decide +kernel
theorem dX5_seek_76 : decode cX5_seek 76 = .ok (.iload_n 1, 1) := by decide +kernel
theorem dX5_seek_77 : decode cX5_seek 77 = .ok (.iconst 1, 1) := by decide +kernel
theorem dX5_seek_78 : decode cX5_seek 78 = .ok (.iadd, 1) := by decide +kernel
theorem dX5_seek_79 : decode cX5_seek 79 = .ok (.iload_n 1, 1) := by decide +kernel
theorem dX5_seek_80 : decode cX5_seek 80 = .ok (.iload_n 3, 1) := by decide +kernel
theorem dX5_seek_81 : decode cX5_seek 81 = .ok (.invokevirtual 60, 3) := by decide +kernel
theorem dX5_seek_84 : decode cX5_seek 84 = .ok (.iconst 0, 1) := by decide +kernel
theorem dX5_seek_85 : decode cX5_seek 85 = .ok (.istore 5, 2) := by decide +kernel
theorem dX5_seek_87 : decode cX5_seek 87 = .ok (.iload 5, 2) := by decide +kernel
theorem dX5_seek_89 : decode cX5_seek 89 = .ok (.aload_n 0, 1) := by decide +kernel
theorem dX5_seek_90 : decode cX5_seek 90 = .ok (.getfield 40, 3) := by decide +kernel
theorem dX5_seek_93 : decode cX5_seek 93 = .ok (.if_icmp .ge 64, 3) := by decide +kernel
theorem dX5_seek_96 : decode cX5_seek 96 = .ok (.aload_n 0, 1) := by decide +kernel
theorem dX5_seek_97 : decode cX5_seek 97 = .ok (.getfield 15, 3) := by decide +kernel
theorem dX5_seek_100 : decode cX5_seek 100 = .ok (.iload 5, 2) := by decide +kernel
theorem dX5_seek_102 : decode cX5_seek 102 = .ok (.bipush 6, 2) := by decide +kernel
theorem dX5_seek_104 : decode cX5_seek 104 = .ok (.imul, 1) := by decide +kernel
theorem dX5_seek_105 : decode cX5_seek 105 = .ok (.iload_n 1, 1) := by decide +kernel
theorem dX5_seek_106 : decode cX5_seek 106 = .ok (.iadd, 1) := by decide +kernel
theorem dX5_seek_107 : decode cX5_seek 107 = .ok (.iaload, 1) := by decide +kernel
theorem dX5_seek_108 : decode cX5_seek 108 = .ok (.istore 6, 2) := by decide +kernel
theorem dX5_seek_110 : decode cX5_seek 110 = .ok (.iload_n 3, 1) := by decide +kernel
theorem dX5_seek_111 : decode cX5_seek 111 = .ok (.iload 6, 2) := by decide +kernel
theorem dX5_seek_113 : decode cX5_seek 113 = .ok (.iadd, 1) := by decide +kernel
theorem dX5_seek_114 : decode cX5_seek 114 = .ok (.aload_n 0, 1) := by decide +kernel
theorem dX5_seek_115 : decode cX5_seek 115 = .ok (.getfield 57, 3) := by decide +kernel
theorem dX5_seek_118 : decode cX5_seek 118 = .ok (.if_icmp .gt 33, 3) := by decide +kernel
theorem dX5_seek_121 : decode cX5_seek 121 = .ok (.aload_n 0, 1) := by decide +kernel
theorem dX5_seek_122 : decode cX5_seek 122 = .ok (.iload 5, 2) := by decide +kernel
theorem dX5_seek_124 : decode cX5_seek 124 = .ok (.iload_n 1, 1) := by decide +kernel
theorem dX5_seek_125 : decode cX5_seek 125 = .ok (.invokevirtual 84, 3) := by decide +kernel
theorem dX5_seek_128 : decode cX5_seek 128 = .ok (.ifCond .ne 23, 3) := by decide +kernel
theorem dX5_seek_131 : decode cX5_seek 131 = .ok (.aload_n 0, 1) := by decide +kernel
theorem dX5_seek_132 : decode cX5_seek 132 = .ok (.getfield 18, 3) := by decide +kernel
theorem dX5_seek_135 : decode cX5_seek 135 = .ok (.iload_n 1, 1) := by decide +kernel
theorem dX5_seek_136 : decode cX5_seek 136 = .ok (.iload 5, 2) := by decide +kernel
theorem dX5_seek_138 : decode cX5_seek 138 = .ok (.iastore, 1) := by decide +kernel
theorem dX5_seek_139 : decode cX5_seek 139 = .ok (.aload_n 0, 1) := by decide +kernel
theorem dX5_seek_140 : decode cX5_seek 140 = .ok (.iload_n 1, 1) := by decide +kernel
theorem dX5_seek_141 : decode cX5_seek 141 = .ok (.iconst 1, 1) := by decide +kernel
theorem dX5_seek_142 : decode cX5_seek 142 = .ok (.iadd, 1) := by decide +kernel
theorem dX5_seek_143 : decode cX5_seek 143 = .ok (.iload_n 2, 1) := by decide +kernel
theorem dX5_seek_144 : decode cX5_seek 144 = .ok (.iload_n 3, 1) := by decide +kernel
theorem dX5_seek_145 : decode cX5_seek 145 = .ok (.iload 6, 2) := by decide +kernel
theorem dX5_seek_147 : decode cX5_seek 147 = .ok (.iadd, 1) := by decide +kernel
theorem dX5_seek_148 : decode cX5_seek 148 = .ok (.invokevirtual 60, 3) := by decide +kernel
theorem dX5_seek_151 : decode cX5_seek 151 = .ok (.iinc 5 1, 3) := by decide +kernel
theorem dX5_seek_154 : decode cX5_seek 154 = .ok (.goto (-67), 3) := by decide +kernel
theorem dX5_seek_157 : decode cX5_seek 157 = .ok (.return_, 1) := by decide +kernel
theorem dX5_comesOf_0 : decode cX5_comesOf 0 = .ok (.iload_n 1, 1) := by decide +kernel
theorem dX5_comesOf_1 : decode cX5_comesOf 1 = .ok (.istore_n 3, 1) := by decide +kernel
theorem dX5_comesOf_2 : decode cX5_comesOf 2 = .ok (.iconst 0, 1) := by decide +kernel
theorem dX5_comesOf_3 : decode cX5_comesOf 3 = .ok (.istore 4, 2) := by decide +kernel
theorem dX5_comesOf_5 : decode cX5_comesOf 5 = .ok (.iload 4, 2) := by decide +kernel
theorem dX5_comesOf_7 : decode cX5_comesOf 7 = .ok (.bipush 6, 2) := by decide +kernel
theorem dX5_comesOf_9 : decode cX5_comesOf 9 = .ok (.if_icmp .ge 26, 3) := by decide +kernel
theorem dX5_comesOf_12 : decode cX5_comesOf 12 = .ok (.iload_n 3, 1) := by decide +kernel
theorem dX5_comesOf_13 : decode cX5_comesOf 13 = .ok (.iconst (-1), 1) := by decide +kernel
theorem dX5_comesOf_14 : decode cX5_comesOf 14 = .ok (.if_icmp .eq 21, 3) := by decide +kernel
theorem dX5_comesOf_17 : decode cX5_comesOf 17 = .ok (.iload_n 3, 1) := by decide +kernel
theorem dX5_comesOf_18 : decode cX5_comesOf 18 = .ok (.iload_n 2, 1) := by decide +kernel
theorem dX5_comesOf_19 : decode cX5_comesOf 19 = .ok (.if_icmp .ge 16, 3) := by decide +kernel
theorem dX5_comesOf_22 : decode cX5_comesOf 22 = .ok (.aload_n 0, 1) := by decide +kernel
theorem dX5_comesOf_23 : decode cX5_comesOf 23 = .ok (.getfield 18, 3) := by decide +kernel
theorem dX5_comesOf_26 : decode cX5_comesOf 26 = .ok (.iload_n 3, 1) := by decide +kernel
theorem dX5_comesOf_27 : decode cX5_comesOf 27 = .ok (.iaload, 1) := by decide +kernel
theorem dX5_comesOf_28 : decode cX5_comesOf 28 = .ok (.istore_n 3, 1) := by decide +kernel
theorem dX5_comesOf_29 : decode cX5_comesOf 29 = .ok (.iinc 4 1, 3) := by decide +kernel
theorem dX5_comesOf_32 : decode cX5_comesOf 32 = .ok (.goto (-27), 3) := by decide +kernel
theorem dX5_comesOf_35 : decode cX5_comesOf 35 = .ok (.iload_n 3, 1) := by decide +kernel
theorem dX5_comesOf_36 : decode cX5_comesOf 36 = .ok (.iload_n 2, 1) := by decide +kernel
theorem dX5_comesOf_37 : decode cX5_comesOf 37 = .ok (.if_icmp .ne 7, 3) := by decide +kernel
theorem dX5_comesOf_40 : decode cX5_comesOf 40 = .ok (.iconst 1, 1) := by decide +kernel
theorem dX5_comesOf_41 : decode cX5_comesOf 41 = .ok (.goto 4, 3) := by decide +kernel
theorem dX5_comesOf_44 : decode cX5_comesOf 44 = .ok (.iconst 0, 1) := by decide +kernel
theorem dX5_comesOf_45 : decode cX5_comesOf 45 = .ok (.ireturn, 1) := by decide +kernel
theorem dX5_noteRow_0 : decode cX5_noteRow 0 = .ok (.aload_n 0, 1) := by decide +kernel
theorem dX5_noteRow_1 : decode cX5_noteRow 1 = .ok (.getfield 48, 3) := by decide +kernel
theorem dX5_noteRow_4 : decode cX5_noteRow 4 = .ok (.ifCond .ne 20, 3) := by decide +kernel
theorem dX5_noteRow_7 : decode cX5_noteRow 7 = .ok (.aload_n 0, 1) := by decide +kernel
theorem dX5_noteRow_8 : decode cX5_noteRow 8 = .ok (.getfield 18, 3) := by decide +kernel
theorem dX5_noteRow_11 : decode cX5_noteRow 11 = .ok (.iconst 0, 1) := by decide +kernel
theorem dX5_noteRow_12 : decode cX5_noteRow 12 = .ok (.aload_n 0, 1) := by decide +kernel
theorem dX5_noteRow_13 : decode cX5_noteRow 13 = .ok (.getfield 21, 3) := by decide +kernel
theorem dX5_noteRow_16 : decode cX5_noteRow 16 = .ok (.iconst 0, 1) := by decide +kernel
theorem dX5_noteRow_17 : decode cX5_noteRow 17 = .ok (.aload_n 0, 1) := by decide +kernel
theorem dX5_noteRow_18 : decode cX5_noteRow 18 = .ok (.getfield 40, 3) := by decide +kernel
theorem dX5_noteRow_21 : decode cX5_noteRow 21 = .ok (.invokestatic 88, 3) := by decide +kernel
theorem dX5_noteRow_24 : decode cX5_noteRow 24 = .ok (.aload_n 0, 1) := by decide +kernel
theorem dX5_noteRow_25 : decode cX5_noteRow 25 = .ok (.dup, 1) := by decide +kernel
theorem dX5_noteRow_26 : decode cX5_noteRow 26 = .ok (.getfield 48, 3) := by decide +kernel
theorem dX5_noteRow_29 : decode cX5_noteRow 29 = .ok (.iconst 1, 1) := by decide +kernel
theorem dX5_noteRow_30 : decode cX5_noteRow 30 = .ok (.iadd, 1) := by decide +kernel
theorem dX5_noteRow_31 : decode cX5_noteRow 31 = .ok (.putfield 48, 3) := by decide +kernel
theorem dX5_noteRow_34 : decode cX5_noteRow 34 = .ok (.return_, 1) := by decide +kernel
theorem dX6_init_0 : decode cX6_init 0 = .ok (.aload_n 0, 1) := by decide +kernel
theorem dX6_init_1 : decode cX6_init 1 = .ok (.invokespecial 3, 3) := by decide +kernel
theorem dX6_init_4 : decode cX6_init 4 = .ok (.aload_n 0, 1) := by decide +kernel
theorem dX6_init_5 : decode cX6_init 5 = .ok (.iconst 5, 1) := by decide +kernel
theorem dX6_init_6 : decode cX6_init 6 = .ok (.newarray .int, 2) := by decide +kernel
theorem dX6_init_8 : decode cX6_init 8 = .ok (.putfield 9, 3) := by decide +kernel
theorem dX6_init_11 : decode cX6_init 11 = .ok (.aload_n 0, 1) := by decide +kernel
theorem dX6_init_12 : decode cX6_init 12 = .ok (.bipush 6, 2) := by decide +kernel
theorem dX6_init_14 : decode cX6_init 14 = .ok (.newarray .int, 2) := by decide +kernel
theorem dX6_init_16 : decode cX6_init 16 = .ok (.putfield 15, 3) := by decide +kernel
theorem dX6_init_19 : decode cX6_init 19 = .ok (.return_, 1) := by decide +kernel
theorem dX6_rankOf_0 : decode cX6_rankOf 0 = .ok (.iload_n 0, 1) := by decide +kernel
theorem dX6_rankOf_1 : decode cX6_rankOf 1 = .ok (.ifCond .lt 9, 3) := by decide +kernel
theorem dX6_rankOf_4 : decode cX6_rankOf 4 = .ok (.iload_n 0, 1) := by decide +kernel
theorem dX6_rankOf_5 : decode cX6_rankOf 5 = .ok (.ldc 18, 2) := by decide +kernel
theorem dX6_rankOf_7 : decode cX6_rankOf 7 = .ok (.if_icmp .le 5, 3) := by decide +kernel
theorem dX6_rankOf_10 : decode cX6_rankOf 10 = .ok (.iconst (-1), 1) := by decide +kernel
theorem dX6_rankOf_11 : decode cX6_rankOf 11 = .ok (.ireturn, 1) := by decide +kernel
theorem dX6_rankOf_12 : decode cX6_rankOf 12 = .ok (.iload_n 0, 1) := by decide +kernel
theorem dX6_rankOf_13 : decode cX6_rankOf 13 = .ok (.istore_n 1, 1) := by decide +kernel
theorem dX6_rankOf_14 : decode cX6_rankOf 14 = .ok (.iconst 0, 1) := by decide +kernel
theorem dX6_rankOf_15 : decode cX6_rankOf 15 = .ok (.istore_n 2, 1) := by decide +kernel
theorem dX6_rankOf_16 : decode cX6_rankOf 16 = .ok (.iconst 0, 1) := by decide +kernel
theorem dX6_rankOf_17 : decode cX6_rankOf 17 = .ok (.istore_n 3, 1) := by decide +kernel
theorem dX6_rankOf_18 : decode cX6_rankOf 18 = .ok (.iconst 0, 1) := by decide +kernel
theorem dX6_rankOf_19 : decode cX6_rankOf 19 = .ok (.istore 4, 2) := by decide +kernel
theorem dX6_rankOf_21 : decode cX6_rankOf 21 = .ok (.iload 4, 2) := by decide +kernel
theorem dX6_rankOf_23 : decode cX6_rankOf 23 = .ok (.iconst 5, 1) := by decide +kernel
theorem dX6_rankOf_24 : decode cX6_rankOf 24 = .ok (.if_icmp .ge 56, 3) := by decide +kernel
theorem dX6_rankOf_27 : decode cX6_rankOf 27 = .ok (.iload_n 1, 1) := by decide +kernel
theorem dX6_rankOf_28 : decode cX6_rankOf 28 = .ok (.ifCond .le 52, 3) := by decide +kernel
theorem dX6_rankOf_31 : decode cX6_rankOf 31 = .ok (.iload_n 1, 1) := by decide +kernel
theorem dX6_rankOf_32 : decode cX6_rankOf 32 = .ok (.bipush 10, 2) := by decide +kernel
theorem dX6_rankOf_34 : decode cX6_rankOf 34 = .ok (.irem, 1) := by decide +kernel
theorem dX6_rankOf_35 : decode cX6_rankOf 35 = .ok (.istore 5, 2) := by decide +kernel
theorem dX6_rankOf_37 : decode cX6_rankOf 37 = .ok (.iload 5, 2) := by decide +kernel
theorem dX6_rankOf_39 : decode cX6_rankOf 39 = .ok (.iconst 1, 1) := by decide +kernel
theorem dX6_rankOf_40 : decode cX6_rankOf 40 = .ok (.if_icmp .lt 10, 3) := by decide +kernel
theorem dX6_rankOf_43 : decode cX6_rankOf 43 = .ok (.iload 5, 2) := by decide +kernel
theorem dX6_rankOf_45 : decode cX6_rankOf 45 = .ok (.bipush 6, 2) := by decide +kernel
theorem dX6_rankOf_47 : decode cX6_rankOf 47 = .ok (.if_icmp .le 5, 3) := by decide +kernel
theorem dX6_rankOf_50 : decode cX6_rankOf 50 = .ok (.iconst (-1), 1) := by decide +kernel
theorem dX6_rankOf_51 : decode cX6_rankOf 51 = .ok (.ireturn, 1) := by decide +kernel
theorem dX6_rankOf_52 : decode cX6_rankOf 52 = .ok (.iload_n 2, 1) := by decide +kernel
theorem dX6_rankOf_53 : decode cX6_rankOf 53 = .ok (.iload 5, 2) := by decide +kernel
theorem dX6_rankOf_55 : decode cX6_rankOf 55 = .ok (.iconst 1, 1) := by decide +kernel
theorem dX6_rankOf_56 : decode cX6_rankOf 56 = .ok (.isub, 1) := by decide +kernel
theorem dX6_rankOf_57 : decode cX6_rankOf 57 = .ok (.getstatic 19, 3) := by decide +kernel
theorem dX6_rankOf_60 : decode cX6_rankOf 60 = .ok (.iload 4, 2) := by decide +kernel
theorem dX6_rankOf_62 : decode cX6_rankOf 62 = .ok (.iaload, 1) := by decide +kernel
theorem dX6_rankOf_63 : decode cX6_rankOf 63 = .ok (.imul, 1) := by decide +kernel
theorem dX6_rankOf_64 : decode cX6_rankOf 64 = .ok (.iadd, 1) := by decide +kernel
theorem dX6_rankOf_65 : decode cX6_rankOf 65 = .ok (.istore_n 2, 1) := by decide +kernel
theorem dX6_rankOf_66 : decode cX6_rankOf 66 = .ok (.iinc 3 1, 3) := by decide +kernel
theorem dX6_rankOf_69 : decode cX6_rankOf 69 = .ok (.iload_n 1, 1) := by decide +kernel
theorem dX6_rankOf_70 : decode cX6_rankOf 70 = .ok (.bipush 10, 2) := by decide +kernel
theorem dX6_rankOf_72 : decode cX6_rankOf 72 = .ok (.idiv, 1) := by decide +kernel
theorem dX6_rankOf_73 : decode cX6_rankOf 73 = .ok (.istore_n 1, 1) := by decide +kernel
theorem dX6_rankOf_74 : decode cX6_rankOf 74 = .ok (.iinc 4 1, 3) := by decide +kernel
theorem dX6_rankOf_77 : decode cX6_rankOf 77 = .ok (.goto (-56), 3) := by decide +kernel
theorem dX6_rankOf_80 : decode cX6_rankOf 80 = .ok (.getstatic 22, 3) := by decide +kernel
theorem dX6_rankOf_83 : decode cX6_rankOf 83 = .ok (.iload_n 3, 1) := by decide +kernel
theorem dX6_rankOf_84 : decode cX6_rankOf 84 = .ok (.iaload, 1) := by decide +kernel
theorem dX6_rankOf_85 : decode cX6_rankOf 85 = .ok (.iload_n 2, 1) := by decide +kernel
theorem dX6_rankOf_86 : decode cX6_rankOf 86 = .ok (.iadd, 1) := by decide +kernel
theorem dX6_rankOf_87 : decode cX6_rankOf 87 = .ok (.ireturn, 1) := by decide +kernel
theorem dX6_numberOf_0 : decode cX6_numberOf 0 = .ok (.iload_n 0, 1) := by decide +kernel
theorem dX6_numberOf_1 : decode cX6_numberOf 1 = .ok (.ifCond .ge 5, 3) := by decide +kernel
theorem dX6_numberOf_4 : decode cX6_numberOf 4 = .ok (.iconst (-1), 1) := by decide +kernel
theorem dX6_numberOf_5 : decode cX6_numberOf 5 = .ok (.ireturn, 1) := by decide +kernel
theorem dX6_numberOf_6 : decode cX6_numberOf 6 = .ok (.iload_n 0, 1) := by decide +kernel
theorem dX6_numberOf_7 : decode cX6_numberOf 7 = .ok (.invokestatic 25, 3) := by decide +kernel
theorem dX6_numberOf_10 : decode cX6_numberOf 10 = .ok (.istore_n 1, 1) := by decide +kernel
theorem dX6_numberOf_11 : decode cX6_numberOf 11 = .ok (.iload_n 0, 1) := by decide +kernel
theorem dX6_numberOf_12 : decode cX6_numberOf 12 = .ok (.getstatic 22, 3) := by decide +kernel
theorem dX6_numberOf_15 : decode cX6_numberOf 15 = .ok (.iload_n 1, 1) := by decide +kernel
theorem dX6_numberOf_16 : decode cX6_numberOf 16 = .ok (.iaload, 1) := by decide +kernel
theorem dX6_numberOf_17 : decode cX6_numberOf 17 = .ok (.isub, 1) := by decide +kernel
theorem dX6_numberOf_18 : decode cX6_numberOf 18 = .ok (.istore_n 2, 1) := by decide +kernel
theorem dX6_numberOf_19 : decode cX6_numberOf 19 = .ok (.iconst 0, 1) := by decide +kernel
theorem dX6_numberOf_20 : decode cX6_numberOf 20 = .ok (.istore_n 3, 1) := by decide +kernel
theorem dX6_numberOf_21 : decode cX6_numberOf 21 = .ok (.iconst 1, 1) := by decide +kernel
theorem dX6_numberOf_22 : decode cX6_numberOf 22 = .ok (.istore 4, 2) := by decide +kernel
theorem dX6_numberOf_24 : decode cX6_numberOf 24 = .ok (.iconst 0, 1) := by decide +kernel
theorem dX6_numberOf_25 : decode cX6_numberOf 25 = .ok (.istore 5, 2) := by decide +kernel
theorem dX6_numberOf_27 : decode cX6_numberOf 27 = .ok (.iload 5, 2) := by decide +kernel
theorem dX6_numberOf_29 : decode cX6_numberOf 29 = .ok (.iload_n 1, 1) := by decide +kernel
theorem dX6_numberOf_30 : decode cX6_numberOf 30 = .ok (.if_icmp .ge 33, 3) := by decide +kernel
theorem dX6_numberOf_33 : decode cX6_numberOf 33 = .ok (.iload_n 3, 1) := by decide +kernel
theorem dX6_numberOf_34 : decode cX6_numberOf 34 = .ok (.iload_n 2, 1) := by decide +kernel
theorem dX6_numberOf_35 : decode cX6_numberOf 35 = .ok (.bipush 6, 2) := by decide +kernel
theorem dX6_numberOf_37 : decode cX6_numberOf 37 = .ok (.irem, 1) := by decide +kernel
theorem dX6_numberOf_38 : decode cX6_numberOf 38 = .ok (.iconst 1, 1) := by decide +kernel
theorem dX6_numberOf_39 : decode cX6_numberOf 39 = .ok (.iadd, 1) := by decide +kernel
theorem dX6_numberOf_40 : decode cX6_numberOf 40 = .ok (.iload 4, 2) := by decide +kernel
theorem dX6_numberOf_42 : decode cX6_numberOf 42 = .ok (.imul, 1) := by decide +kernel
theorem dX6_numberOf_43 : decode cX6_numberOf 43 = .ok (.iadd, 1) := by decide +kernel
theorem dX6_numberOf_44 : decode cX6_numberOf 44 = .ok (.istore_n 3, 1) := by decide +kernel
theorem dX6_numberOf_45 : decode cX6_numberOf 45 = .ok (.iload 4, 2) := by decide +kernel
theorem dX6_numberOf_47 : decode cX6_numberOf 47 = .ok (.bipush 10, 2) := by decide +kernel
theorem dX6_numberOf_49 : decode cX6_numberOf 49 = .ok (.imul, 1) := by decide +kernel
theorem dX6_numberOf_50 : decode cX6_numberOf 50 = .ok (.istore 4, 2) := by decide +kernel
theorem dX6_numberOf_52 : decode cX6_numberOf 52 = .ok (.iload_n 2, 1) := by decide +kernel
theorem dX6_numberOf_53 : decode cX6_numberOf 53 = .ok (.bipush 6, 2) := by decide +kernel
theorem dX6_numberOf_55 : decode cX6_numberOf 55 = .ok (.idiv, 1) := by decide +kernel
theorem dX6_numberOf_56 : decode cX6_numberOf 56 = .ok (.istore_n 2, 1) := by decide +kernel
theorem dX6_numberOf_57 : decode cX6_numberOf 57 = .ok (.iinc 5 1, 3) := by decide +kernel
theorem dX6_numberOf_60 : decode cX6_numberOf 60 = .ok (.goto (-33), 3) := by decide +kernel
theorem dX6_numberOf_63 : decode cX6_numberOf 63 = .ok (.iload_n 3, 1) := by decide +kernel
theorem dX6_numberOf_64 : decode cX6_numberOf 64 = .ok (.ireturn, 1) := by decide +kernel
theorem dX6_lengthOf_0 : decode cX6_lengthOf 0 = .ok (.iconst 5, 1) := by decide +kernel
theorem dX6_lengthOf_1 : decode cX6_lengthOf 1 = .ok (.istore_n 1, 1) := by decide +kernel
theorem dX6_lengthOf_2 : decode cX6_lengthOf 2 = .ok (.iload_n 1, 1) := by decide +kernel
theorem dX6_lengthOf_3 : decode cX6_lengthOf 3 = .ok (.ifCond .le 18, 3) := by decide +kernel
theorem dX6_lengthOf_6 : decode cX6_lengthOf 6 = .ok (.iload_n 0, 1) := by decide +kernel
theorem dX6_lengthOf_7 : decode cX6_lengthOf 7 = .ok (.getstatic 22, 3) := by decide +kernel
theorem dX6_lengthOf_10 : decode cX6_lengthOf 10 = .ok (.iload_n 1, 1) := by decide +kernel
theorem dX6_lengthOf_11 : decode cX6_lengthOf 11 = .ok (.iaload, 1) := by decide +kernel
theorem dX6_lengthOf_12 : decode cX6_lengthOf 12 = .ok (.if_icmp .ge 9, 3) := by decide +kernel
theorem dX6_lengthOf_15 : decode cX6_lengthOf 15 = .ok (.iinc 1 (-1), 3) := by decide +kernel
theorem dX6_lengthOf_18 : decode cX6_lengthOf 18 = .ok (.goto (-16), 3) := by decide +kernel
theorem dX6_lengthOf_21 : decode cX6_lengthOf 21 = .ok (.iload_n 1, 1) := by decide +kernel
theorem dX6_lengthOf_22 : decode cX6_lengthOf 22 = .ok (.ireturn, 1) := by decide +kernel
theorem dX6_tasteOf_0 : decode cX6_tasteOf 0 = .ok (.iload_n 0, 1) := by decide +kernel
theorem dX6_tasteOf_1 : decode cX6_tasteOf 1 = .ok (.invokestatic 25, 3) := by decide +kernel
theorem dX6_tasteOf_4 : decode cX6_tasteOf 4 = .ok (.istore_n 1, 1) := by decide +kernel
theorem dX6_tasteOf_5 : decode cX6_tasteOf 5 = .ok (.iload_n 0, 1) := by decide +kernel
theorem dX6_tasteOf_6 : decode cX6_tasteOf 6 = .ok (.getstatic 22, 3) := by decide +kernel
theorem dX6_tasteOf_9 : decode cX6_tasteOf 9 = .ok (.iload_n 1, 1) := by decide +kernel
theorem dX6_tasteOf_10 : decode cX6_tasteOf 10 = .ok (.iaload, 1) := by decide +kernel
theorem dX6_tasteOf_11 : decode cX6_tasteOf 11 = .ok (.isub, 1) := by decide +kernel
theorem dX6_tasteOf_12 : decode cX6_tasteOf 12 = .ok (.istore_n 2, 1) := by decide +kernel
theorem dX6_tasteOf_13 : decode cX6_tasteOf 13 = .ok (.iconst 0, 1) := by decide +kernel
theorem dX6_tasteOf_14 : decode cX6_tasteOf 14 = .ok (.istore_n 3, 1) := by decide +kernel
theorem dX6_tasteOf_15 : decode cX6_tasteOf 15 = .ok (.iconst 0, 1) := by decide +kernel
theorem dX6_tasteOf_16 : decode cX6_tasteOf 16 = .ok (.istore 4, 2) := by decide +kernel
theorem dX6_tasteOf_18 : decode cX6_tasteOf 18 = .ok (.iload 4, 2) := by decide +kernel
theorem dX6_tasteOf_20 : decode cX6_tasteOf 20 = .ok (.iload_n 1, 1) := by decide +kernel
theorem dX6_tasteOf_21 : decode cX6_tasteOf 21 = .ok (.if_icmp .ge 25, 3) := by decide +kernel
theorem dX6_tasteOf_24 : decode cX6_tasteOf 24 = .ok (.iload_n 3, 1) := by decide +kernel
theorem dX6_tasteOf_25 : decode cX6_tasteOf 25 = .ok (.iconst 1, 1) := by decide +kernel
theorem dX6_tasteOf_26 : decode cX6_tasteOf 26 = .ok (.iconst 3, 1) := by decide +kernel
theorem dX6_tasteOf_27 : decode cX6_tasteOf 27 = .ok (.iload_n 2, 1) := by decide +kernel
theorem dX6_tasteOf_28 : decode cX6_tasteOf 28 = .ok (.bipush 6, 2) := by decide +kernel
theorem dX6_tasteOf_30 : decode cX6_tasteOf 30 = .ok (.irem, 1) := by decide +kernel
theorem dX6_tasteOf_31 : decode cX6_tasteOf 31 = .ok (.imul, 1) := by decide +kernel
theorem dX6_tasteOf_32 : decode cX6_tasteOf 32 = .ok (.ishl, 1) := by decide +kernel
theorem dX6_tasteOf_33 : decode cX6_tasteOf 33 = .ok (.iadd, 1) := by decide +kernel
theorem dX6_tasteOf_34 : decode cX6_tasteOf 34 = .ok (.istore_n 3, 1) := by decide +kernel
theorem dX6_tasteOf_35 : decode cX6_tasteOf 35 = .ok (.iload_n 2, 1) := by decide +kernel
theorem dX6_tasteOf_36 : decode cX6_tasteOf 36 = .ok (.bipush 6, 2) := by decide +kernel
theorem dX6_tasteOf_38 : decode cX6_tasteOf 38 = .ok (.idiv, 1) := by decide +kernel
theorem dX6_tasteOf_39 : decode cX6_tasteOf 39 = .ok (.istore_n 2, 1) := by decide +kernel
theorem dX6_tasteOf_40 : decode cX6_tasteOf 40 = .ok (.iinc 4 1, 3) := by decide +kernel
theorem dX6_tasteOf_43 : decode cX6_tasteOf 43 = .ok (.goto (-25), 3) := by decide +kernel
theorem dX6_tasteOf_46 : decode cX6_tasteOf 46 = .ok (.iload_n 3, 1) := by decide +kernel
theorem dX6_tasteOf_47 : decode cX6_tasteOf 47 = .ok (.ireturn, 1) := by decide +kernel
theorem dX6_leftOut_0 : decode cX6_leftOut 0 = .ok (.iload_n 0, 1) := by decide +kernel
theorem dX6_leftOut_1 : decode cX6_leftOut 1 = .ok (.invokestatic 25, 3) := by decide +kernel
theorem dX6_leftOut_4 : decode cX6_leftOut 4 = .ok (.istore_n 2, 1) := by decide +kernel
theorem dX6_leftOut_5 : decode cX6_leftOut 5 = .ok (.iload_n 0, 1) := by decide +kernel
theorem dX6_leftOut_6 : decode cX6_leftOut 6 = .ok (.getstatic 22, 3) := by decide +kernel
theorem dX6_leftOut_9 : decode cX6_leftOut 9 = .ok (.iload_n 2, 1) := by decide +kernel
theorem dX6_leftOut_10 : decode cX6_leftOut 10 = .ok (.iaload, 1) := by decide +kernel
theorem dX6_leftOut_11 : decode cX6_leftOut 11 = .ok (.isub, 1) := by decide +kernel
theorem dX6_leftOut_12 : decode cX6_leftOut 12 = .ok (.istore_n 3, 1) := by decide +kernel
theorem dX6_leftOut_13 : decode cX6_leftOut 13 = .ok (.iconst 0, 1) := by decide +kernel
theorem dX6_leftOut_14 : decode cX6_leftOut 14 = .ok (.istore 4, 2) := by decide +kernel
theorem dX6_leftOut_16 : decode cX6_leftOut 16 = .ok (.iconst 0, 1) := by decide +kernel
theorem dX6_leftOut_17 : decode cX6_leftOut 17 = .ok (.istore 5, 2) := by decide +kernel
theorem dX6_leftOut_19 : decode cX6_leftOut 19 = .ok (.iconst 0, 1) := by decide +kernel
theorem dX6_leftOut_20 : decode cX6_leftOut 20 = .ok (.istore 6, 2) := by decide +kernel
theorem dX6_leftOut_22 : decode cX6_leftOut 22 = .ok (.iload 6, 2) := by decide +kernel
theorem dX6_leftOut_24 : decode cX6_leftOut 24 = .ok (.iload_n 2, 1) := by decide +kernel
theorem dX6_leftOut_25 : decode cX6_leftOut 25 = .ok (.if_icmp .ge 43, 3) := by decide +kernel
theorem dX6_leftOut_28 : decode cX6_leftOut 28 = .ok (.iload_n 3, 1) := by decide +kernel
theorem dX6_leftOut_29 : decode cX6_leftOut 29 = .ok (.bipush 6, 2) := by decide +kernel
theorem dX6_leftOut_31 : decode cX6_leftOut 31 = .ok (.irem, 1) := by decide +kernel
theorem dX6_leftOut_32 : decode cX6_leftOut 32 = .ok (.istore 7, 2) := by decide +kernel
theorem dX6_leftOut_34 : decode cX6_leftOut 34 = .ok (.iload_n 3, 1) := by decide +kernel
theorem dX6_leftOut_35 : decode cX6_leftOut 35 = .ok (.bipush 6, 2) := by decide +kernel
theorem dX6_leftOut_37 : decode cX6_leftOut 37 = .ok (.idiv, 1) := by decide +kernel
theorem dX6_leftOut_38 : decode cX6_leftOut 38 = .ok (.istore_n 3, 1) := by decide +kernel
theorem dX6_leftOut_39 : decode cX6_leftOut 39 = .ok (.iload 7, 2) := by decide +kernel
theorem dX6_leftOut_41 : decode cX6_leftOut 41 = .ok (.iload_n 1, 1) := by decide +kernel
theorem dX6_leftOut_42 : decode cX6_leftOut 42 = .ok (.if_icmp .eq 20, 3) := by decide +kernel
theorem dX6_leftOut_45 : decode cX6_leftOut 45 = .ok (.iload 4, 2) := by decide +kernel
theorem dX6_leftOut_47 : decode cX6_leftOut 47 = .ok (.iload 7, 2) := by decide +kernel
theorem dX6_leftOut_49 : decode cX6_leftOut 49 = .ok (.getstatic 19, 3) := by decide +kernel
theorem dX6_leftOut_52 : decode cX6_leftOut 52 = .ok (.iload 5, 2) := by decide +kernel
theorem dX6_leftOut_54 : decode cX6_leftOut 54 = .ok (.iaload, 1) := by decide +kernel
theorem dX6_leftOut_55 : decode cX6_leftOut 55 = .ok (.imul, 1) := by decide +kernel
theorem dX6_leftOut_56 : decode cX6_leftOut 56 = .ok (.iadd, 1) := by decide +kernel
theorem dX6_leftOut_57 : decode cX6_leftOut 57 = .ok (.istore 4, 2) := by decide +kernel
theorem dX6_leftOut_59 : decode cX6_leftOut 59 = .ok (.iinc 5 1, 3) := by decide +kernel
theorem dX6_leftOut_62 : decode cX6_leftOut 62 = .ok (.iinc 6 1, 3) := by decide +kernel
theorem dX6_leftOut_65 : decode cX6_leftOut 65 = .ok (.goto (-43), 3) := by decide +kernel
theorem dX6_leftOut_68 : decode cX6_leftOut 68 = .ok (.getstatic 22, 3) := by decide +kernel
theorem dX6_leftOut_71 : decode cX6_leftOut 71 = .ok (.iload 5, 2) := by decide +kernel
theorem dX6_leftOut_73 : decode cX6_leftOut 73 = .ok (.iaload, 1) := by decide +kernel
theorem dX6_leftOut_74 : decode cX6_leftOut 74 = .ok (.iload 4, 2) := by decide +kernel
theorem dX6_leftOut_76 : decode cX6_leftOut 76 = .ok (.iadd, 1) := by decide +kernel
theorem dX6_leftOut_77 : decode cX6_leftOut 77 = .ok (.ireturn, 1) := by decide +kernel
theorem dX6_load_0 : decode cX6_load 0 = .ok (.aload_n 0, 1) := by decide +kernel
theorem dX6_load_1 : decode cX6_load 1 = .ok (.iload_n 1, 1) := by decide +kernel
theorem dX6_load_2 : decode cX6_load 2 = .ok (.invokestatic 25, 3) := by decide +kernel
theorem dX6_load_5 : decode cX6_load 5 = .ok (.putfield 29, 3) := by decide +kernel
theorem dX6_load_8 : decode cX6_load 8 = .ok (.aload_n 0, 1) := by decide +kernel
theorem dX6_load_9 : decode cX6_load 9 = .ok (.iload_n 1, 1) := by decide +kernel
theorem dX6_load_10 : decode cX6_load 10 = .ok (.getstatic 22, 3) := by decide +kernel
theorem dX6_load_13 : decode cX6_load 13 = .ok (.aload_n 0, 1) := by decide +kernel
theorem dX6_load_14 : decode cX6_load 14 = .ok (.getfield 29, 3) := by decide +kernel
theorem dX6_load_17 : decode cX6_load 17 = .ok (.iaload, 1) := by decide +kernel
theorem dX6_load_18 : decode cX6_load 18 = .ok (.isub, 1) := by decide +kernel
theorem dX6_load_19 : decode cX6_load 19 = .ok (.putfield 33, 3) := by decide +kernel
theorem dX6_load_22 : decode cX6_load 22 = .ok (.iconst 0, 1) := by decide +kernel
theorem dX6_load_23 : decode cX6_load 23 = .ok (.istore_n 2, 1) := by decide +kernel
theorem dX6_load_24 : decode cX6_load 24 = .ok (.iload_n 2, 1) := by decide +kernel
theorem dX6_load_25 : decode cX6_load 25 = .ok (.bipush 6, 2) := by decide +kernel
theorem dX6_load_27 : decode cX6_load 27 = .ok (.if_icmp .ge 16, 3) := by decide +kernel
theorem dX6_load_30 : decode cX6_load 30 = .ok (.aload_n 0, 1) := by decide +kernel
theorem dX6_load_31 : decode cX6_load 31 = .ok (.getfield 15, 3) := by decide +kernel
theorem dX6_load_34 : decode cX6_load 34 = .ok (.iload_n 2, 1) := by decide +kernel
theorem dX6_load_35 : decode cX6_load 35 = .ok (.iconst 0, 1) := by decide +kernel
theorem dX6_load_36 : decode cX6_load 36 = .ok (.iastore, 1) := by decide +kernel
theorem dX6_load_37 : decode cX6_load 37 = .ok (.iinc 2 1, 3) := by decide +kernel
theorem dX6_load_40 : decode cX6_load 40 = .ok (.goto (-16), 3) := by decide +kernel
theorem dX6_load_43 : decode cX6_load 43 = .ok (.aload_n 0, 1) := by decide +kernel
theorem dX6_load_44 : decode cX6_load 44 = .ok (.getfield 33, 3) := by decide +kernel
theorem dX6_load_47 : decode cX6_load 47 = .ok (.istore_n 2, 1) := by decide +kernel
theorem dX6_load_48 : decode cX6_load 48 = .ok (.aload_n 0, 1) := by decide +kernel
theorem dX6_load_49 : decode cX6_load 49 = .ok (.getfield 29, 3) := by decide +kernel
theorem dX6_load_52 : decode cX6_load 52 = .ok (.iconst 1, 1) := by decide +kernel
theorem dX6_load_53 : decode cX6_load 53 = .ok (.isub, 1) := by decide +kernel
theorem dX6_load_54 : decode cX6_load 54 = .ok (.istore_n 3, 1) := by decide +kernel
theorem dX6_load_55 : decode cX6_load 55 = .ok (.iload_n 3, 1) := by decide +kernel
theorem dX6_load_56 : decode cX6_load 56 = .ok (.ifCond .lt 39, 3) := by decide +kernel
theorem dX6_load_59 : decode cX6_load 59 = .ok (.iload_n 2, 1) := by decide +kernel
theorem dX6_load_60 : decode cX6_load 60 = .ok (.bipush 6, 2) := by decide +kernel
theorem dX6_load_62 : decode cX6_load 62 = .ok (.irem, 1) := by decide +kernel
theorem dX6_load_63 : decode cX6_load 63 = .ok (.istore 4, 2) := by decide +kernel
theorem dX6_load_65 : decode cX6_load 65 = .ok (.aload_n 0, 1) := by decide +kernel
theorem dX6_load_66 : decode cX6_load 66 = .ok (.getfield 9, 3) := by decide +kernel
theorem dX6_load_69 : decode cX6_load 69 = .ok (.iload_n 3, 1) := by decide +kernel
theorem dX6_load_70 : decode cX6_load 70 = .ok (.iload 4, 2) := by decide +kernel
theorem dX6_load_72 : decode cX6_load 72 = .ok (.iastore, 1) := by decide +kernel
theorem dX6_load_73 : decode cX6_load 73 = .ok (.aload_n 0, 1) := by decide +kernel
theorem dX6_load_74 : decode cX6_load 74 = .ok (.getfield 15, 3) := by decide +kernel
theorem dX6_load_77 : decode cX6_load 77 = .ok (.iload 4, 2) := by decide +kernel
theorem dX6_load_79 : decode cX6_load 79 = .ok (.dup2, 1) := by decide +kernel
theorem dX6_load_80 : decode cX6_load 80 = .ok (.iaload, 1) := by decide +kernel
theorem dX6_load_81 : decode cX6_load 81 = .ok (.iconst 1, 1) := by decide +kernel
theorem dX6_load_82 : decode cX6_load 82 = .ok (.iadd, 1) := by decide +kernel
theorem dX6_load_83 : decode cX6_load 83 = .ok (.iastore, 1) := by decide +kernel
theorem dX6_load_84 : decode cX6_load 84 = .ok (.iload_n 2, 1) := by decide +kernel
theorem dX6_load_85 : decode cX6_load 85 = .ok (.bipush 6, 2) := by decide +kernel
theorem dX6_load_87 : decode cX6_load 87 = .ok (.idiv, 1) := by decide +kernel
theorem dX6_load_88 : decode cX6_load 88 = .ok (.istore_n 2, 1) := by decide +kernel
theorem dX6_load_89 : decode cX6_load 89 = .ok (.iinc 3 (-1), 3) := by decide +kernel
theorem dX6_load_92 : decode cX6_load 92 = .ok (.goto (-37), 3) := by decide +kernel
theorem dX6_load_95 : decode cX6_load 95 = .ok (.return_, 1) := by decide +kernel
theorem dX6_hasPlace_0 : decode cX6_hasPlace 0 = .ok (.iload_n 1, 1) := by decide +kernel
theorem dX6_hasPlace_1 : decode cX6_hasPlace 1 = .ok (.ifCond .lt 15, 3) := by decide +kernel
theorem dX6_hasPlace_4 : decode cX6_hasPlace 4 = .ok (.iload_n 1, 1) := by decide +kernel
theorem dX6_hasPlace_5 : decode cX6_hasPlace 5 = .ok (.aload_n 0, 1) := by decide +kernel
theorem dX6_hasPlace_6 : decode cX6_hasPlace 6 = .ok (.getfield 29, 3) := by decide +kernel
theorem dX6_hasPlace_9 : decode cX6_hasPlace 9 = .ok (.if_icmp .ge 7, 3) := by decide +kernel
theorem dX6_hasPlace_12 : decode cX6_hasPlace 12 = .ok (.iconst 1, 1) := by decide +kernel
theorem dX6_hasPlace_13 : decode cX6_hasPlace 13 = .ok (.goto 4, 3) := by decide +kernel
theorem dX6_hasPlace_16 : decode cX6_hasPlace 16 = .ok (.iconst 0, 1) := by decide +kernel
theorem dX6_hasPlace_17 : decode cX6_hasPlace 17 = .ok (.ireturn, 1) := by decide +kernel
theorem dX6_hasRoomAt_0 : decode cX6_hasRoomAt 0 = .ok (.iload_n 1, 1) := by decide +kernel
theorem dX6_hasRoomAt_1 : decode cX6_hasRoomAt 1 = .ok (.ifCond .lt 23, 3) := by decide +kernel
theorem dX6_hasRoomAt_4 : decode cX6_hasRoomAt 4 = .ok (.iload_n 1, 1) := by decide +kernel
theorem dX6_hasRoomAt_5 : decode cX6_hasRoomAt 5 = .ok (.aload_n 0, 1) := by decide +kernel
theorem dX6_hasRoomAt_6 : decode cX6_hasRoomAt 6 = .ok (.getfield 29, 3) := by decide +kernel
theorem dX6_hasRoomAt_9 : decode cX6_hasRoomAt 9 = .ok (.if_icmp .gt 15, 3) := by decide +kernel
theorem dX6_hasRoomAt_12 : decode cX6_hasRoomAt 12 = .ok (.aload_n 0, 1) := by decide +kernel
theorem dX6_hasRoomAt_13 : decode cX6_hasRoomAt 13 = .ok (.getfield 29, 3) := by decide +kernel
theorem dX6_hasRoomAt_16 : decode cX6_hasRoomAt 16 = .ok (.iconst 5, 1) := by decide +kernel
theorem dX6_hasRoomAt_17 : decode cX6_hasRoomAt 17 = .ok (.if_icmp .ge 7, 3) := by decide +kernel
theorem dX6_hasRoomAt_20 : decode cX6_hasRoomAt 20 = .ok (.iconst 1, 1) := by decide +kernel
theorem dX6_hasRoomAt_21 : decode cX6_hasRoomAt 21 = .ok (.goto 4, 3) := by decide +kernel
theorem dX6_hasRoomAt_24 : decode cX6_hasRoomAt 24 = .ok (.iconst 0, 1) := by decide +kernel
theorem dX6_hasRoomAt_25 : decode cX6_hasRoomAt 25 = .ok (.ireturn, 1) := by decide +kernel
theorem dX6_without_0 : decode cX6_without 0 = .ok (.aload_n 0, 1) := by decide +kernel
theorem dX6_without_1 : decode cX6_without 1 = .ok (.iload_n 1, 1) := by decide +kernel
theorem dX6_without_2 : decode cX6_without 2 = .ok (.invokevirtual 36, 3) := by decide +kernel
theorem dX6_without_5 : decode cX6_without 5 = .ok (.ifCond .ne 5, 3) := by decide +kernel
theorem dX6_without_8 : decode cX6_without 8 = .ok (.iconst (-1), 1) := by decide +kernel
theorem dX6_without_9 : decode cX6_without 9 = .ok (.ireturn, 1) := by decide +kernel
theorem dX6_without_10 : decode cX6_without 10 = .ok (.getstatic 19, 3) := by decide +kernel
theorem dX6_without_13 : decode cX6_without 13 = .ok (.aload_n 0, 1) := by decide +kernel
theorem dX6_without_14 : decode cX6_without 14 = .ok (.getfield 29, 3) := by decide +kernel
theorem dX6_without_17 : decode cX6_without 17 = .ok (.iconst 1, 1) := by decide +kernel
theorem dX6_without_18 : decode cX6_without 18 = .ok (.isub, 1) := by decide +kernel
theorem dX6_without_19 : decode cX6_without 19 = .ok (.iload_n 1, 1) := by decide +kernel
theorem dX6_without_20 : decode cX6_without 20 = .ok (.isub, 1) := by decide +kernel
theorem dX6_without_21 : decode cX6_without 21 = .ok (.iaload, 1) := by decide +kernel
theorem dX6_without_22 : decode cX6_without 22 = .ok (.istore_n 2, 1) := by decide +kernel
theorem dX6_without_23 : decode cX6_without 23 = .ok (.getstatic 22, 3) := by decide +kernel
theorem dX6_without_26 : decode cX6_without 26 = .ok (.aload_n 0, 1) := by decide +kernel
theorem dX6_without_27 : decode cX6_without 27 = .ok (.getfield 29, 3) := by decide +kernel
theorem dX6_without_30 : decode cX6_without 30 = .ok (.iconst 1, 1) := by decide +kernel
theorem dX6_without_31 : decode cX6_without 31 = .ok (.isub, 1) := by decide +kernel
theorem dX6_without_32 : decode cX6_without 32 = .ok (.iaload, 1) := by decide +kernel
theorem dX6_without_33 : decode cX6_without 33 = .ok (.aload_n 0, 1) := by decide +kernel
theorem dX6_without_34 : decode cX6_without 34 = .ok (.getfield 33, 3) := by decide +kernel
theorem dX6_without_37 : decode cX6_without 37 = .ok (.iload_n 2, 1) := by decide +kernel
theorem dX6_without_38 : decode cX6_without 38 = .ok (.bipush 6, 2) := by decide +kernel
theorem dX6_without_40 : decode cX6_without 40 = .ok (.imul, 1) := by decide +kernel
theorem dX6_without_41 : decode cX6_without 41 = .ok (.idiv, 1) := by decide +kernel
theorem dX6_without_42 : decode cX6_without 42 = .ok (.iload_n 2, 1) := by decide +kernel
theorem dX6_without_43 : decode cX6_without 43 = .ok (.imul, 1) := by decide +kernel
theorem dX6_without_44 : decode cX6_without 44 = .ok (.iadd, 1) := by decide +kernel
theorem dX6_without_45 : decode cX6_without 45 = .ok (.aload_n 0, 1) := by decide +kernel
theorem dX6_without_46 : decode cX6_without 46 = .ok (.getfield 33, 3) := by decide +kernel
theorem dX6_without_49 : decode cX6_without 49 = .ok (.iload_n 2, 1) := by decide +kernel
theorem dX6_without_50 : decode cX6_without 50 = .ok (.irem, 1) := by decide +kernel
theorem dX6_without_51 : decode cX6_without 51 = .ok (.iadd, 1) := by decide +kernel
theorem dX6_without_52 : decode cX6_without 52 = .ok (.ireturn, 1) := by decide +kernel
theorem dX6_with_0 : decode cX6_with 0 = .ok (.aload_n 0, 1) := by decide +kernel
theorem dX6_with_1 : decode cX6_with 1 = .ok (.iload_n 1, 1) := by decide +kernel
theorem dX6_with_2 : decode cX6_with 2 = .ok (.invokevirtual 40, 3) := by decide +kernel
theorem dX6_with_5 : decode cX6_with 5 = .ok (.ifCond .ne 5, 3) := by decide +kernel
theorem dX6_with_8 : decode cX6_with 8 = .ok (.iconst (-1), 1) := by decide +kernel
theorem dX6_with_9 : decode cX6_with 9 = .ok (.ireturn, 1) := by decide +kernel
theorem dX6_with_10 : decode cX6_with 10 = .ok (.getstatic 19, 3) := by decide +kernel
theorem dX6_with_13 : decode cX6_with 13 = .ok (.aload_n 0, 1) := by decide +kernel
theorem dX6_with_14 : decode cX6_with 14 = .ok (.getfield 29, 3) := by decide +kernel
theorem dX6_with_17 : decode cX6_with 17 = .ok (.iload_n 1, 1) := by decide +kernel
theorem dX6_with_18 : decode cX6_with 18 = .ok (.isub, 1) := by decide +kernel
theorem dX6_with_19 : decode cX6_with 19 = .ok (.iaload, 1) := by decide +kernel
theorem dX6_with_20 : decode cX6_with 20 = .ok (.istore_n 3, 1) := by decide +kernel
theorem dX6_with_21 : decode cX6_with 21 = .ok (.getstatic 22, 3) := by decide +kernel
theorem dX6_with_24 : decode cX6_with 24 = .ok (.aload_n 0, 1) := by decide +kernel
theorem dX6_with_25 : decode cX6_with 25 = .ok (.getfield 29, 3) := by decide +kernel
theorem dX6_with_28 : decode cX6_with 28 = .ok (.iconst 1, 1) := by decide +kernel
theorem dX6_with_29 : decode cX6_with 29 = .ok (.iadd, 1) := by decide +kernel
theorem dX6_with_30 : decode cX6_with 30 = .ok (.iaload, 1) := by decide +kernel
theorem dX6_with_31 : decode cX6_with 31 = .ok (.aload_n 0, 1) := by decide +kernel
theorem dX6_with_32 : decode cX6_with 32 = .ok (.getfield 33, 3) := by decide +kernel
theorem dX6_with_35 : decode cX6_with 35 = .ok (.iload_n 3, 1) := by decide +kernel
theorem dX6_with_36 : decode cX6_with 36 = .ok (.idiv, 1) := by decide +kernel
theorem dX6_with_37 : decode cX6_with 37 = .ok (.bipush 6, 2) := by decide +kernel
theorem dX6_with_39 : decode cX6_with 39 = .ok (.imul, 1) := by decide +kernel
theorem dX6_with_40 : decode cX6_with 40 = .ok (.iload_n 2, 1) := by decide +kernel
theorem dX6_with_41 : decode cX6_with 41 = .ok (.iadd, 1) := by decide +kernel
theorem dX6_with_42 : decode cX6_with 42 = .ok (.iload_n 3, 1) := by decide +kernel
theorem dX6_with_43 : decode cX6_with 43 = .ok (.imul, 1) := by decide +kernel
theorem dX6_with_44 : decode cX6_with 44 = .ok (.iadd, 1) := by decide +kernel
theorem dX6_with_45 : decode cX6_with 45 = .ok (.aload_n 0, 1) := by decide +kernel
theorem dX6_with_46 : decode cX6_with 46 = .ok (.getfield 33, 3) := by decide +kernel
theorem dX6_with_49 : decode cX6_with 49 = .ok (.iload_n 3, 1) := by decide +kernel
theorem dX6_with_50 : decode cX6_with 50 = .ok (.irem, 1) := by decide +kernel
theorem dX6_with_51 : decode cX6_with 51 = .ok (.iadd, 1) := by decide +kernel
theorem dX6_with_52 : decode cX6_with 52 = .ok (.ireturn, 1) := by decide +kernel
theorem dX6_swapped_0 : decode cX6_swapped 0 = .ok (.aload_n 0, 1) := by decide +kernel
theorem dX6_swapped_1 : decode cX6_swapped 1 = .ok (.iload_n 1, 1) := by decide +kernel
theorem dX6_swapped_2 : decode cX6_swapped 2 = .ok (.invokevirtual 36, 3) := by decide +kernel
theorem dX6_swapped_5 : decode cX6_swapped 5 = .ok (.ifCond .eq 30, 3) := by decide +kernel
theorem dX6_swapped_8 : decode cX6_swapped 8 = .ok (.aload_n 0, 1) := by decide +kernel
theorem dX6_swapped_9 : decode cX6_swapped 9 = .ok (.iload_n 1, 1) := by decide +kernel
theorem dX6_swapped_10 : decode cX6_swapped 10 = .ok (.iconst 1, 1) := by decide +kernel
theorem dX6_swapped_11 : decode cX6_swapped 11 = .ok (.iadd, 1) := by decide +kernel
theorem dX6_swapped_12 : decode cX6_swapped 12 = .ok (.invokevirtual 36, 3) := by decide +kernel
theorem dX6_swapped_15 : decode cX6_swapped 15 = .ok (.ifCond .eq 20, 3) := by decide +kernel
theorem dX6_swapped_18 : decode cX6_swapped 18 = .ok (.aload_n 0, 1) := by decide +kernel
theorem dX6_swapped_19 : decode cX6_swapped 19 = .ok (.getfield 9, 3) := by decide +kernel
theorem dX6_swapped_22 : decode cX6_swapped 22 = .ok (.iload_n 1, 1) := by decide +kernel
theorem dX6_swapped_23 : decode cX6_swapped 23 = .ok (.iaload, 1) := by decide +kernel
theorem dX6_swapped_24 : decode cX6_swapped 24 = .ok (.aload_n 0, 1) := by decide +kernel
theorem dX6_swapped_25 : decode cX6_swapped 25 = .ok (.getfield 9, 3) := by decide +kernel
theorem dX6_swapped_28 : decode cX6_swapped 28 = .ok (.iload_n 1, 1) := by decide +kernel
theorem dX6_swapped_29 : decode cX6_swapped 29 = .ok (.iconst 1, 1) := by decide +kernel
theorem dX6_swapped_30 : decode cX6_swapped 30 = .ok (.iadd, 1) := by decide +kernel
theorem dX6_swapped_31 : decode cX6_swapped 31 = .ok (.iaload, 1) := by decide +kernel
theorem dX6_swapped_32 : decode cX6_swapped 32 = .ok (.if_icmp .ne 5, 3) := by decide +kernel
theorem dX6_swapped_35 : decode cX6_swapped 35 = .ok (.iconst (-1), 1) := by decide +kernel
theorem dX6_swapped_36 : decode cX6_swapped 36 = .ok (.ireturn, 1) := by decide +kernel
theorem dX6_swapped_37 : decode cX6_swapped 37 = .ok (.aload_n 0, 1) := by decide +kernel
theorem dX6_swapped_38 : decode cX6_swapped 38 = .ok (.getfield 9, 3) := by decide +kernel
theorem dX6_swapped_41 : decode cX6_swapped 41 = .ok (.iload_n 1, 1) := by decide +kernel
theorem dX6_swapped_42 : decode cX6_swapped 42 = .ok (.iconst 1, 1) := by decide +kernel
theorem dX6_swapped_43 : decode cX6_swapped 43 = .ok (.iadd, 1) := by decide +kernel
theorem dX6_swapped_44 : decode cX6_swapped 44 = .ok (.iaload, 1) := by decide +kernel
theorem dX6_swapped_45 : decode cX6_swapped 45 = .ok (.aload_n 0, 1) := by decide +kernel
theorem dX6_swapped_46 : decode cX6_swapped 46 = .ok (.getfield 9, 3) := by decide +kernel
theorem dX6_swapped_49 : decode cX6_swapped 49 = .ok (.iload_n 1, 1) := by decide +kernel
theorem dX6_swapped_50 : decode cX6_swapped 50 = .ok (.iaload, 1) := by decide +kernel
theorem dX6_swapped_51 : decode cX6_swapped 51 = .ok (.isub, 1) := by decide +kernel
theorem dX6_swapped_52 : decode cX6_swapped 52 = .ok (.istore_n 2, 1) := by decide +kernel
theorem dX6_swapped_53 : decode cX6_swapped 53 = .ok (.getstatic 22, 3) := by decide +kernel
theorem dX6_swapped_56 : decode cX6_swapped 56 = .ok (.aload_n 0, 1) := by decide +kernel
theorem dX6_swapped_57 : decode cX6_swapped 57 = .ok (.getfield 29, 3) := by decide +kernel
theorem dX6_swapped_60 : decode cX6_swapped 60 = .ok (.iaload, 1) := by decide +kernel
theorem dX6_swapped_61 : decode cX6_swapped 61 = .ok (.aload_n 0, 1) := by decide +kernel
theorem dX6_swapped_62 : decode cX6_swapped 62 = .ok (.getfield 33, 3) := by decide +kernel
theorem dX6_swapped_65 : decode cX6_swapped 65 = .ok (.iadd, 1) := by decide +kernel
theorem dX6_swapped_66 : decode cX6_swapped 66 = .ok (.iload_n 2, 1) := by decide +kernel
theorem dX6_swapped_67 : decode cX6_swapped 67 = .ok (.getstatic 19, 3) := by decide +kernel
theorem dX6_swapped_70 : decode cX6_swapped 70 = .ok (.aload_n 0, 1) := by decide +kernel
theorem dX6_swapped_71 : decode cX6_swapped 71 = .ok (.getfield 29, 3) := by decide +kernel
theorem dX6_swapped_74 : decode cX6_swapped 74 = .ok (.iconst 1, 1) := by decide +kernel
theorem dX6_swapped_75 : decode cX6_swapped 75 = .ok (.isub, 1) := by decide +kernel
theorem dX6_swapped_76 : decode cX6_swapped 76 = .ok (.iload_n 1, 1) := by decide +kernel
theorem dX6_swapped_77 : decode cX6_swapped 77 = .ok (.isub, 1) := by decide +kernel
theorem dX6_swapped_78 : decode cX6_swapped 78 = .ok (.iaload, 1) := by decide +kernel
theorem dX6_swapped_79 : decode cX6_swapped 79 = .ok (.getstatic 19, 3) := by decide +kernel
theorem dX6_swapped_82 : decode cX6_swapped 82 = .ok (.aload_n 0, 1) := by decide +kernel
theorem dX6_swapped_83 : decode cX6_swapped 83 = .ok (.getfield 29, 3) := by decide +kernel
theorem dX6_swapped_86 : decode cX6_swapped 86 = .ok (.iconst 2, 1) := by decide +kernel
theorem dX6_swapped_87 : decode cX6_swapped 87 = .ok (.isub, 1) := by decide +kernel
theorem dX6_swapped_88 : decode cX6_swapped 88 = .ok (.iload_n 1, 1) := by decide +kernel
theorem dX6_swapped_89 : decode cX6_swapped 89 = .ok (.isub, 1) := by decide +kernel
theorem dX6_swapped_90 : decode cX6_swapped 90 = .ok (.iaload, 1) := by decide +kernel
theorem dX6_swapped_91 : decode cX6_swapped 91 = .ok (.isub, 1) := by decide +kernel
theorem dX6_swapped_92 : decode cX6_swapped 92 = .ok (.imul, 1) := by decide +kernel
theorem dX6_swapped_93 : decode cX6_swapped 93 = .ok (.iadd, 1) := by decide +kernel
theorem dX6_swapped_94 : decode cX6_swapped 94 = .ok (.ireturn, 1) := by decide +kernel
theorem dX6_doubled_0 : decode cX6_doubled 0 = .ok (.aload_n 0, 1) := by decide +kernel
theorem dX6_doubled_1 : decode cX6_doubled 1 = .ok (.iload_n 1, 1) := by decide +kernel
theorem dX6_doubled_2 : decode cX6_doubled 2 = .ok (.invokevirtual 36, 3) := by decide +kernel
theorem dX6_doubled_5 : decode cX6_doubled 5 = .ok (.ifCond .eq 17, 3) := by decide +kernel
theorem dX6_doubled_8 : decode cX6_doubled 8 = .ok (.aload_n 0, 1) := by decide +kernel
theorem dX6_doubled_9 : decode cX6_doubled 9 = .ok (.iload_n 1, 1) := by decide +kernel
theorem dX6_doubled_10 : decode cX6_doubled 10 = .ok (.aload_n 0, 1) := by decide +kernel
theorem dX6_doubled_11 : decode cX6_doubled 11 = .ok (.getfield 9, 3) := by decide +kernel
theorem dX6_doubled_14 : decode cX6_doubled 14 = .ok (.iload_n 1, 1) := by decide +kernel
theorem dX6_doubled_15 : decode cX6_doubled 15 = .ok (.iaload, 1) := by decide +kernel
theorem dX6_doubled_16 : decode cX6_doubled 16 = .ok (.invokevirtual 43, 3) := by decide +kernel
theorem dX6_doubled_19 : decode cX6_doubled 19 = .ok (.goto 4, 3) := by decide +kernel
theorem dX6_doubled_22 : decode cX6_doubled 22 = .ok (.iconst (-1), 1) := by decide +kernel
theorem dX6_doubled_23 : decode cX6_doubled 23 = .ok (.ireturn, 1) := by decide +kernel
theorem dX6_replaced_0 : decode cX6_replaced 0 = .ok (.aload_n 0, 1) := by decide +kernel
theorem dX6_replaced_1 : decode cX6_replaced 1 = .ok (.iload_n 1, 1) := by decide +kernel
theorem dX6_replaced_2 : decode cX6_replaced 2 = .ok (.invokevirtual 36, 3) := by decide +kernel
theorem dX6_replaced_5 : decode cX6_replaced 5 = .ok (.ifCond .eq 8, 3) := by decide +kernel
theorem dX6_replaced_8 : decode cX6_replaced 8 = .ok (.iload_n 2, 1) := by decide +kernel
theorem dX6_replaced_9 : decode cX6_replaced 9 = .ok (.iconst (-1), 1) := by decide +kernel
theorem dX6_replaced_10 : decode cX6_replaced 10 = .ok (.if_icmp .ne 5, 3) := by decide +kernel
theorem dX6_replaced_13 : decode cX6_replaced 13 = .ok (.iconst (-1), 1) := by decide +kernel
theorem dX6_replaced_14 : decode cX6_replaced 14 = .ok (.ireturn, 1) := by decide +kernel
theorem dX6_replaced_15 : decode cX6_replaced 15 = .ok (.getstatic 22, 3) := by decide +kernel
theorem dX6_replaced_18 : decode cX6_replaced 18 = .ok (.aload_n 0, 1) := by decide +kernel
theorem dX6_replaced_19 : decode cX6_replaced 19 = .ok (.getfield 29, 3) := by decide +kernel
theorem dX6_replaced_22 : decode cX6_replaced 22 = .ok (.iaload, 1) := by decide +kernel
theorem dX6_replaced_23 : decode cX6_replaced 23 = .ok (.aload_n 0, 1) := by decide +kernel
theorem dX6_replaced_24 : decode cX6_replaced 24 = .ok (.getfield 33, 3) := by decide +kernel
theorem dX6_replaced_27 : decode cX6_replaced 27 = .ok (.iadd, 1) := by decide +kernel
theorem dX6_replaced_28 : decode cX6_replaced 28 = .ok (.iload_n 2, 1) := by decide +kernel
theorem dX6_replaced_29 : decode cX6_replaced 29 = .ok (.aload_n 0, 1) := by decide +kernel
theorem dX6_replaced_30 : decode cX6_replaced 30 = .ok (.getfield 9, 3) := by decide +kernel
theorem dX6_replaced_33 : decode cX6_replaced 33 = .ok (.iload_n 1, 1) := by decide +kernel
theorem dX6_replaced_34 : decode cX6_replaced 34 = .ok (.iaload, 1) := by decide +kernel
theorem dX6_replaced_35 : decode cX6_replaced 35 = .ok (.isub, 1) := by decide +kernel
theorem dX6_replaced_36 : decode cX6_replaced 36 = .ok (.getstatic 19, 3) := by decide +kernel
theorem dX6_replaced_39 : decode cX6_replaced 39 = .ok (.aload_n 0, 1) := by decide +kernel
theorem dX6_replaced_40 : decode cX6_replaced 40 = .ok (.getfield 29, 3) := by decide +kernel
theorem dX6_replaced_43 : decode cX6_replaced 43 = .ok (.iconst 1, 1) := by decide +kernel
theorem dX6_replaced_44 : decode cX6_replaced 44 = .ok (.isub, 1) := by decide +kernel
theorem dX6_replaced_45 : decode cX6_replaced 45 = .ok (.iload_n 1, 1) := by decide +kernel
theorem dX6_replaced_46 : decode cX6_replaced 46 = .ok (.isub, 1) := by decide +kernel
theorem dX6_replaced_47 : decode cX6_replaced 47 = .ok (.iaload, 1) := by decide +kernel
theorem dX6_replaced_48 : decode cX6_replaced 48 = .ok (.imul, 1) := by decide +kernel
theorem dX6_replaced_49 : decode cX6_replaced 49 = .ok (.iadd, 1) := by decide +kernel
theorem dX6_replaced_50 : decode cX6_replaced 50 = .ok (.ireturn, 1) := by decide +kernel
theorem dX7_init_0 : decode cX7_init 0 = .ok (.aload_n 0, 1) := by decide +kernel
theorem dX7_init_1 : decode cX7_init 1 = .ok (.invokespecial 3, 3) := by decide +kernel
theorem dX7_init_4 : decode cX7_init 4 = .ok (.aload_n 0, 1) := by decide +kernel
theorem dX7_init_5 : decode cX7_init 5 = .ok (.sipush 400, 3) := by decide +kernel
theorem dX7_init_8 : decode cX7_init 8 = .ok (.newarray .int, 2) := by decide +kernel
theorem dX7_init_10 : decode cX7_init 10 = .ok (.putfield 11, 3) := by decide +kernel
theorem dX7_init_13 : decode cX7_init 13 = .ok (.aload_n 0, 1) := by decide +kernel
theorem dX7_init_14 : decode cX7_init 14 = .ok (.sipush 401, 3) := by decide +kernel
theorem dX7_init_17 : decode cX7_init 17 = .ok (.newarray .int, 2) := by decide +kernel
theorem dX7_init_19 : decode cX7_init 19 = .ok (.putfield 15, 3) := by decide +kernel
theorem dX7_init_22 : decode cX7_init 22 = .ok (.aload_n 0, 1) := by decide +kernel
theorem dX7_init_23 : decode cX7_init 23 = .ok (.sipush 401, 3) := by decide +kernel
theorem dX7_init_26 : decode cX7_init 26 = .ok (.newarray .int, 2) := by decide +kernel
theorem dX7_init_28 : decode cX7_init 28 = .ok (.putfield 18, 3) := by decide +kernel
theorem dX7_init_31 : decode cX7_init 31 = .ok (.aload_n 0, 1) := by decide +kernel
theorem dX7_init_32 : decode cX7_init 32 = .ok (.new 21, 3) := by decide +kernel
theorem dX7_init_35 : decode cX7_init 35 = .ok (.dup, 1) := by decide +kernel
theorem dX7_init_36 : decode cX7_init 36 = .ok (.bipush 12, 2) := by decide +kernel
theorem dX7_init_38 : decode cX7_init 38 = .ok (.sipush 800, 3) := by decide +kernel
theorem dX7_init_41 : decode cX7_init 41 = .ok (.invokespecial 23, 3) := by decide +kernel
theorem dX7_init_44 : decode cX7_init 44 = .ok (.putfield 26, 3) := by decide +kernel
theorem dX7_init_47 : decode cX7_init 47 = .ok (.aload_n 0, 1) := by decide +kernel
theorem dX7_init_48 : decode cX7_init 48 = .ok (.iconst (-1), 1) := by decide +kernel
theorem dX7_init_49 : decode cX7_init 49 = .ok (.putfield 30, 3) := by decide +kernel
theorem dX7_init_52 : decode cX7_init 52 = .ok (.return_, 1) := by decide +kernel
theorem dX7_hasRoomFor_0 : decode cX7_hasRoomFor 0 = .ok (.aload_n 0, 1) := by decide +kernel
theorem dX7_hasRoomFor_1 : decode cX7_hasRoomFor 1 = .ok (.getfield 34, 3) := by decide +kernel
theorem dX7_hasRoomFor_4 : decode cX7_hasRoomFor 4 = .ok (.iload_n 1, 1) := by decide +kernel
theorem dX7_hasRoomFor_5 : decode cX7_hasRoomFor 5 = .ok (.iadd, 1) := by decide +kernel
theorem dX7_hasRoomFor_6 : decode cX7_hasRoomFor 6 = .ok (.sipush 400, 3) := by decide +kernel
theorem dX7_hasRoomFor_9 : decode cX7_hasRoomFor 9 = .ok (.if_icmp .gt 7, 3) := by decide +kernel
theorem dX7_hasRoomFor_12 : decode cX7_hasRoomFor 12 = .ok (.iconst 1, 1) := by decide +kernel
theorem dX7_hasRoomFor_13 : decode cX7_hasRoomFor 13 = .ok (.goto 4, 3) := by decide +kernel
theorem dX7_hasRoomFor_16 : decode cX7_hasRoomFor 16 = .ok (.iconst 0, 1) := by decide +kernel
theorem dX7_hasRoomFor_17 : decode cX7_hasRoomFor 17 = .ok (.ireturn, 1) := by decide +kernel
theorem dX7_addFour_0 : decode cX7_addFour 0 = .ok (.aload_n 0, 1) := by decide +kernel
theorem dX7_addFour_1 : decode cX7_addFour 1 = .ok (.iconst 4, 1) := by decide +kernel
theorem dX7_addFour_2 : decode cX7_addFour 2 = .ok (.invokevirtual 37, 3) := by decide +kernel
theorem dX7_addFour_5 : decode cX7_addFour 5 = .ok (.ifCond .ne 4, 3) := by decide +kernel
theorem dX7_addFour_8 : decode cX7_addFour 8 = .ok (.return_, 1) := by decide +kernel
theorem dX7_addFour_9 : decode cX7_addFour 9 = .ok (.bipush 24, 2) := by decide +kernel
theorem dX7_addFour_11 : decode cX7_addFour 11 = .ok (.istore_n 2, 1) := by decide +kernel
theorem dX7_addFour_12 : decode cX7_addFour 12 = .ok (.iload_n 2, 1) := by decide +kernel
theorem dX7_addFour_13 : decode cX7_addFour 13 = .ok (.ifCond .lt 35, 3) := by decide +kernel
theorem dX7_addFour_16 : decode cX7_addFour 16 = .ok (.aload_n 0, 1) := by decide +kernel
theorem dX7_addFour_17 : decode cX7_addFour 17 = .ok (.getfield 11, 3) := by decide +kernel
theorem dX7_addFour_20 : decode cX7_addFour 20 = .ok (.aload_n 0, 1) := by decide +kernel
theorem dX7_addFour_21 : decode cX7_addFour 21 = .ok (.getfield 34, 3) := by decide +kernel
theorem dX7_addFour_24 : decode cX7_addFour 24 = .ok (.iload_n 1, 1) := by decide +kernel
theorem dX7_addFour_25 : decode cX7_addFour 25 = .ok (.iload_n 2, 1) := by decide +kernel
theorem dX7_addFour_26 : decode cX7_addFour 26 = .ok (.ishr, 1) := by decide +kernel
theorem dX7_addFour_27 : decode cX7_addFour 27 = .ok (.sipush 255, 3) := by decide +kernel
theorem dX7_addFour_30 : decode cX7_addFour 30 = .ok (.iand, 1) := by decide +kernel
theorem dX7_addFour_31 : decode cX7_addFour 31 = .ok (.iastore, 1) := by decide +kernel
theorem dX7_addFour_32 : decode cX7_addFour 32 = .ok (.aload_n 0, 1) := by decide +kernel
theorem dX7_addFour_33 : decode cX7_addFour 33 = .ok (.dup, 1) := by decide +kernel
theorem dX7_addFour_34 : decode cX7_addFour 34 = .ok (.getfield 34, 3) := by decide +kernel
theorem dX7_addFour_37 : decode cX7_addFour 37 = .ok (.iconst 1, 1) := by decide +kernel
theorem dX7_addFour_38 : decode cX7_addFour 38 = .ok (.iadd, 1) := by decide +kernel
theorem dX7_addFour_39 : decode cX7_addFour 39 = .ok (.putfield 34, 3) := by decide +kernel
theorem dX7_addFour_42 : decode cX7_addFour 42 = .ok (.iinc 2 (-8), 3) := by decide +kernel
theorem dX7_addFour_45 : decode cX7_addFour 45 = .ok (.goto (-33), 3) := by decide +kernel
theorem dX7_addFour_48 : decode cX7_addFour 48 = .ok (.return_, 1) := by decide +kernel
theorem dX7_byteAt_0 : decode cX7_byteAt 0 = .ok (.iload_n 1, 1) := by decide +kernel
theorem dX7_byteAt_1 : decode cX7_byteAt 1 = .ok (.ifCond .lt 27, 3) := by decide +kernel
theorem dX7_byteAt_4 : decode cX7_byteAt 4 = .ok (.iload_n 1, 1) := by decide +kernel
theorem dX7_byteAt_5 : decode cX7_byteAt 5 = .ok (.aload_n 0, 1) := by decide +kernel
theorem dX7_byteAt_6 : decode cX7_byteAt 6 = .ok (.getfield 34, 3) := by decide +kernel
theorem dX7_byteAt_9 : decode cX7_byteAt 9 = .ok (.if_icmp .ge 19, 3) := by decide +kernel
theorem dX7_byteAt_12 : decode cX7_byteAt 12 = .ok (.iload_n 1, 1) := by decide +kernel
theorem dX7_byteAt_13 : decode cX7_byteAt 13 = .ok (.sipush 400, 3) := by decide +kernel
theorem dX7_byteAt_16 : decode cX7_byteAt 16 = .ok (.if_icmp .ge 12, 3) := by decide +kernel
theorem dX7_byteAt_19 : decode cX7_byteAt 19 = .ok (.aload_n 0, 1) := by decide +kernel
theorem dX7_byteAt_20 : decode cX7_byteAt 20 = .ok (.getfield 11, 3) := by decide +kernel
theorem dX7_byteAt_23 : decode cX7_byteAt 23 = .ok (.iload_n 1, 1) := by decide +kernel
theorem dX7_byteAt_24 : decode cX7_byteAt 24 = .ok (.iaload, 1) := by decide +kernel
theorem dX7_byteAt_25 : decode cX7_byteAt 25 = .ok (.goto 4, 3) := by decide +kernel
theorem dX7_byteAt_28 : decode cX7_byteAt 28 = .ok (.iconst 0, 1) := by decide +kernel
theorem dX7_byteAt_29 : decode cX7_byteAt 29 = .ok (.ireturn, 1) := by decide +kernel
theorem dX7_dishAt_0 : decode cX7_dishAt 0 = .ok (.iload_n 2, 1) := by decide +kernel
theorem dX7_dishAt_1 : decode cX7_dishAt 1 = .ok (.iload_n 1, 1) := by decide +kernel
theorem dX7_dishAt_2 : decode cX7_dishAt 2 = .ok (.isub, 1) := by decide +kernel
theorem dX7_dishAt_3 : decode cX7_dishAt 3 = .ok (.iconst 5, 1) := by decide +kernel
theorem dX7_dishAt_4 : decode cX7_dishAt 4 = .ok (.if_icmp .le 5, 3) := by decide +kernel
theorem dX7_dishAt_7 : decode cX7_dishAt 7 = .ok (.iconst (-1), 1) := by decide +kernel
theorem dX7_dishAt_8 : decode cX7_dishAt 8 = .ok (.ireturn, 1) := by decide +kernel
theorem dX7_dishAt_9 : decode cX7_dishAt 9 = .ok (.iconst 0, 1) := by decide +kernel
theorem dX7_dishAt_10 : decode cX7_dishAt 10 = .ok (.istore_n 3, 1) := by decide +kernel
theorem dX7_dishAt_11 : decode cX7_dishAt 11 = .ok (.iload_n 1, 1) := by decide +kernel
theorem dX7_dishAt_12 : decode cX7_dishAt 12 = .ok (.istore 4, 2) := by decide +kernel
theorem dX7_dishAt_14 : decode cX7_dishAt 14 = .ok (.iload 4, 2) := by decide +kernel
theorem dX7_dishAt_16 : decode cX7_dishAt 16 = .ok (.iload_n 2, 1) := by decide +kernel
theorem dX7_dishAt_17 : decode cX7_dishAt 17 = .ok (.if_icmp .ge 34, 3) := by decide +kernel
theorem dX7_dishAt_20 : decode cX7_dishAt 20 = .ok (.aload_n 0, 1) := by decide +kernel
theorem dX7_dishAt_21 : decode cX7_dishAt 21 = .ok (.iload 4, 2) := by decide +kernel
theorem dX7_dishAt_23 : decode cX7_dishAt 23 = .ok (.invokevirtual 41, 3) := by decide +kernel
theorem dX7_dishAt_26 : decode cX7_dishAt 26 = .ok (.bipush 6, 2) := by decide +kernel
theorem dX7_dishAt_28 : decode cX7_dishAt 28 = .ok (.if_icmp .le 5, 3) := by decide +kernel
theorem dX7_dishAt_31 : decode cX7_dishAt 31 = .ok (.iconst (-1), 1) := by decide +kernel
theorem dX7_dishAt_32 : decode cX7_dishAt 32 = .ok (.ireturn, 1) := by decide +kernel
theorem dX7_dishAt_33 : decode cX7_dishAt 33 = .ok (.iload_n 3, 1) := by decide +kernel
theorem dX7_dishAt_34 : decode cX7_dishAt 34 = .ok (.bipush 10, 2) := by decide +kernel
theorem dX7_dishAt_36 : decode cX7_dishAt 36 = .ok (.imul, 1) := by decide +kernel
theorem dX7_dishAt_37 : decode cX7_dishAt 37 = .ok (.aload_n 0, 1) := by decide +kernel
theorem dX7_dishAt_38 : decode cX7_dishAt 38 = .ok (.iload 4, 2) := by decide +kernel
theorem dX7_dishAt_40 : decode cX7_dishAt 40 = .ok (.invokevirtual 41, 3) := by decide +kernel
theorem dX7_dishAt_43 : decode cX7_dishAt 43 = .ok (.iadd, 1) := by decide +kernel
theorem dX7_dishAt_44 : decode cX7_dishAt 44 = .ok (.istore_n 3, 1) := by decide +kernel
theorem dX7_dishAt_45 : decode cX7_dishAt 45 = .ok (.iinc 4 1, 3) := by decide +kernel
theorem dX7_dishAt_48 : decode cX7_dishAt 48 = .ok (.goto (-34), 3) := by decide +kernel
theorem dX7_dishAt_51 : decode cX7_dishAt 51 = .ok (.iload_n 3, 1) := by decide +kernel
theorem dX7_dishAt_52 : decode cX7_dishAt 52 = .ok (.invokestatic 45, 3) := by decide +kernel
theorem dX7_dishAt_55 : decode cX7_dishAt 55 = .ok (.ireturn, 1) := by decide +kernel
theorem dX7_read_0 : decode cX7_read 0 = .ok (.aload_n 0, 1) := by decide +kernel
theorem dX7_read_1 : decode cX7_read 1 = .ok (.iload_n 1, 1) := by decide +kernel
theorem dX7_read_2 : decode cX7_read 2 = .ok (.putfield 50, 3) := by decide +kernel
theorem dX7_read_5 : decode cX7_read 5 = .ok (.aload_n 0, 1) := by decide +kernel
theorem dX7_read_6 : decode cX7_read 6 = .ok (.iconst (-1), 1) := by decide +kernel
theorem dX7_read_7 : decode cX7_read 7 = .ok (.putfield 30, 3) := by decide +kernel
theorem dX7_read_10 : decode cX7_read 10 = .ok (.aload_n 0, 1) := by decide +kernel
theorem dX7_read_11 : decode cX7_read 11 = .ok (.iconst 0, 1) := by decide +kernel
theorem dX7_read_12 : decode cX7_read 12 = .ok (.putfield 54, 3) := by decide +kernel
theorem dX7_read_15 : decode cX7_read 15 = .ok (.aload_n 0, 1) := by decide +kernel
theorem dX7_read_16 : decode cX7_read 16 = .ok (.getfield 26, 3) := by decide +kernel
theorem dX7_read_19 : decode cX7_read 19 = .ok (.invokevirtual 57, 3) := by decide +kernel
theorem dX7_read_22 : decode cX7_read 22 = .ok (.aload_n 0, 1) := by decide +kernel
theorem dX7_read_23 : decode cX7_read 23 = .ok (.invokevirtual 60, 3) := by decide +kernel
theorem dX7_read_26 : decode cX7_read 26 = .ok (.aload_n 0, 1) := by decide +kernel
theorem dX7_read_27 : decode cX7_read 27 = .ok (.iconst 0, 1) := by decide +kernel
theorem dX7_read_28 : decode cX7_read 28 = .ok (.putfield 63, 3) := by decide +kernel
theorem dX7_read_31 : decode cX7_read 31 = .ok (.aload_n 0, 1) := by decide +kernel
theorem dX7_read_32 : decode cX7_read 32 = .ok (.aload_n 0, 1) := by decide +kernel
theorem dX7_read_33 : decode cX7_read 33 = .ok (.getfield 15, 3) := by decide +kernel
theorem dX7_read_36 : decode cX7_read 36 = .ok (.iconst 0, 1) := by decide +kernel
theorem dX7_read_37 : decode cX7_read 37 = .ok (.iaload, 1) := by decide +kernel
theorem dX7_read_38 : decode cX7_read 38 = .ok (.putfield 66, 3) := by decide +kernel
theorem dX7_read_41 : decode cX7_read 41 = .ok (.iconst 0, 1) := by decide +kernel
theorem dX7_read_42 : decode cX7_read 42 = .ok (.istore_n 2, 1) := by decide +kernel
theorem dX7_read_43 : decode cX7_read 43 = .ok (.iload_n 2, 1) := by decide +kernel
theorem dX7_read_44 : decode cX7_read 44 = .ok (.bipush 12, 2) := by decide +kernel
theorem dX7_read_46 : decode cX7_read 46 = .ok (.if_icmp .ge 65, 3) := by decide +kernel
theorem dX7_read_49 : decode cX7_read 49 = .ok (.aload_n 0, 1) := by decide +kernel
theorem dX7_read_50 : decode cX7_read 50 = .ok (.getfield 50, 3) := by decide +kernel
theorem dX7_read_53 : decode cX7_read 53 = .ok (.ifCond .eq 13, 3) := by decide +kernel
theorem dX7_read_56 : decode cX7_read 56 = .ok (.aload_n 0, 1) := by decide +kernel
theorem dX7_read_57 : decode cX7_read 57 = .ok (.invokevirtual 69, 3) := by decide +kernel
theorem dX7_read_60 : decode cX7_read 60 = .ok (.ifCond .eq 13, 3) := by decide +kernel
theorem dX7_read_63 : decode cX7_read 63 = .ok (.goto 12, 3) := by decide +kernel
theorem dX7_read_66 : decode cX7_read 66 = .ok (.aload_n 0, 1) := by decide +kernel
theorem dX7_read_67 : decode cX7_read 67 = .ok (.invokevirtual 73, 3) := by decide +kernel
theorem dX7_read_70 : decode cX7_read 70 = .ok (.ifCond .ne 5, 3) := by decide +kernel
theorem dX7_read_73 : decode cX7_read 73 = .ok (.iconst 0, 1) := by decide +kernel
theorem dX7_read_74 : decode cX7_read 74 = .ok (.ireturn, 1) := by decide +kernel
theorem dX7_read_75 : decode cX7_read 75 = .ok (.aload_n 0, 1) := by decide +kernel
theorem dX7_read_76 : decode cX7_read 76 = .ok (.getfield 66, 3) := by decide +kernel
theorem dX7_read_79 : decode cX7_read 79 = .ok (.sipush 256, 3) := by decide +kernel
theorem dX7_read_82 : decode cX7_read 82 = .ok (.if_icmp .ne 5, 3) := by decide +kernel
theorem dX7_read_85 : decode cX7_read 85 = .ok (.iconst 1, 1) := by decide +kernel
theorem dX7_read_86 : decode cX7_read 86 = .ok (.ireturn, 1) := by decide +kernel
theorem dX7_read_87 : decode cX7_read 87 = .ok (.aload_n 0, 1) := by decide +kernel
theorem dX7_read_88 : decode cX7_read 88 = .ok (.getfield 66, 3) := by decide +kernel
theorem dX7_read_91 : decode cX7_read 91 = .ok (.bipush 59, 2) := by decide +kernel
theorem dX7_read_93 : decode cX7_read 93 = .ok (.if_icmp .eq 8, 3) := by decide +kernel
theorem dX7_read_96 : decode cX7_read 96 = .ok (.aload_n 0, 1) := by decide +kernel
theorem dX7_read_97 : decode cX7_read 97 = .ok (.invokevirtual 76, 3) := by decide +kernel
theorem dX7_read_100 : decode cX7_read 100 = .ok (.ireturn, 1) := by decide +kernel
theorem dX7_read_101 : decode cX7_read 101 = .ok (.aload_n 0, 1) := by decide +kernel
theorem dX7_read_102 : decode cX7_read 102 = .ok (.invokevirtual 79, 3) := by decide +kernel
theorem dX7_read_105 : decode cX7_read 105 = .ok (.iinc 2 1, 3) := by decide +kernel
theorem dX7_read_108 : decode cX7_read 108 = .ok (.goto (-65), 3) := by decide +kernel
theorem dX7_read_111 : decode cX7_read 111 = .ok (.aload_n 0, 1) := by decide +kernel
theorem dX7_read_112 : decode cX7_read 112 = .ok (.invokevirtual 76, 3) := by decide +kernel
theorem dX7_read_115 : decode cX7_read 115 = .ok (.ireturn, 1) := by decide +kernel
theorem dX7_cutTokens_0 : decode cX7_cutTokens 0 = .ok (.iconst 0, 1) := by decide +kernel
theorem dX7_cutTokens_1 : decode cX7_cutTokens 1 = .ok (.istore_n 1, 1) := by decide +kernel
theorem dX7_cutTokens_2 : decode cX7_cutTokens 2 = .ok (.iconst 0, 1) := by decide +kernel
theorem dX7_cutTokens_3 : decode cX7_cutTokens 3 = .ok (.istore_n 2, 1) := by decide +kernel
theorem dX7_cutTokens_4 : decode cX7_cutTokens 4 = .ok (.iload_n 2, 1) := by decide +kernel
theorem dX7_cutTokens_5 : decode cX7_cutTokens 5 = .ok (.aload_n 0, 1) := by decide +kernel
theorem dX7_cutTokens_6 : decode cX7_cutTokens 6 = .ok (.getfield 34, 3) := by decide +kernel
theorem dX7_cutTokens_9 : decode cX7_cutTokens 9 = .ok (.if_icmp .ge 91, 3) := by decide +kernel
theorem dX7_cutTokens_12 : decode cX7_cutTokens 12 = .ok (.iload_n 1, 1) := by decide +kernel
theorem dX7_cutTokens_13 : decode cX7_cutTokens 13 = .ok (.sipush 400, 3) := by decide +kernel
theorem dX7_cutTokens_16 : decode cX7_cutTokens 16 = .ok (.if_icmp .ge 84, 3) := by decide +kernel
theorem dX7_cutTokens_19 : decode cX7_cutTokens 19 = .ok (.aload_n 0, 1) := by decide +kernel
theorem dX7_cutTokens_20 : decode cX7_cutTokens 20 = .ok (.iload_n 2, 1) := by decide +kernel
theorem dX7_cutTokens_21 : decode cX7_cutTokens 21 = .ok (.invokevirtual 82, 3) := by decide +kernel
theorem dX7_cutTokens_24 : decode cX7_cutTokens 24 = .ok (.istore_n 3, 1) := by decide +kernel
theorem dX7_cutTokens_25 : decode cX7_cutTokens 25 = .ok (.iload_n 2, 1) := by decide +kernel
theorem dX7_cutTokens_26 : decode cX7_cutTokens 26 = .ok (.iconst 1, 1) := by decide +kernel
theorem dX7_cutTokens_27 : decode cX7_cutTokens 27 = .ok (.iadd, 1) := by decide +kernel
theorem dX7_cutTokens_28 : decode cX7_cutTokens 28 = .ok (.istore 4, 2) := by decide +kernel
theorem dX7_cutTokens_30 : decode cX7_cutTokens 30 = .ok (.iload_n 3, 1) := by decide +kernel
theorem dX7_cutTokens_31 : decode cX7_cutTokens 31 = .ok (.iconst 2, 1) := by decide +kernel
theorem dX7_cutTokens_32 : decode cX7_cutTokens 32 = .ok (.if_icmp .eq 28, 3) := by decide +kernel
theorem dX7_cutTokens_35 : decode cX7_cutTokens 35 = .ok (.iload 4, 2) := by decide +kernel
theorem dX7_cutTokens_37 : decode cX7_cutTokens 37 = .ok (.aload_n 0, 1) := by decide +kernel
theorem dX7_cutTokens_38 : decode cX7_cutTokens 38 = .ok (.getfield 34, 3) := by decide +kernel
theorem dX7_cutTokens_41 : decode cX7_cutTokens 41 = .ok (.if_icmp .ge 19, 3) := by decide +kernel
theorem dX7_cutTokens_44 : decode cX7_cutTokens 44 = .ok (.aload_n 0, 1) := by decide +kernel
theorem dX7_cutTokens_45 : decode cX7_cutTokens 45 = .ok (.iload 4, 2) := by decide +kernel
theorem dX7_cutTokens_47 : decode cX7_cutTokens 47 = .ok (.invokevirtual 82, 3) := by decide +kernel
theorem dX7_cutTokens_50 : decode cX7_cutTokens 50 = .ok (.iload_n 3, 1) := by decide +kernel
theorem dX7_cutTokens_51 : decode cX7_cutTokens 51 = .ok (.if_icmp .ne 9, 3) := by decide +kernel
theorem dX7_cutTokens_54 : decode cX7_cutTokens 54 = .ok (.iinc 4 1, 3) := by decide +kernel
theorem dX7_cutTokens_57 : decode cX7_cutTokens 57 = .ok (.goto (-27), 3) := by decide +kernel
theorem dX7_cutTokens_60 : decode cX7_cutTokens 60 = .ok (.aload_n 0, 1) := by decide +kernel
theorem dX7_cutTokens_61 : decode cX7_cutTokens 61 = .ok (.iload_n 2, 1) := by decide +kernel
theorem dX7_cutTokens_62 : decode cX7_cutTokens 62 = .ok (.invokevirtual 41, 3) := by decide +kernel
theorem dX7_cutTokens_65 : decode cX7_cutTokens 65 = .ok (.bipush 32, 2) := by decide +kernel
theorem dX7_cutTokens_67 : decode cX7_cutTokens 67 = .ok (.if_icmp .eq 27, 3) := by decide +kernel
theorem dX7_cutTokens_70 : decode cX7_cutTokens 70 = .ok (.aload_n 0, 1) := by decide +kernel
theorem dX7_cutTokens_71 : decode cX7_cutTokens 71 = .ok (.getfield 15, 3) := by decide +kernel
theorem dX7_cutTokens_74 : decode cX7_cutTokens 74 = .ok (.iload_n 1, 1) := by decide +kernel
theorem dX7_cutTokens_75 : decode cX7_cutTokens 75 = .ok (.aload_n 0, 1) := by decide +kernel
theorem dX7_cutTokens_76 : decode cX7_cutTokens 76 = .ok (.iload_n 3, 1) := by decide +kernel
theorem dX7_cutTokens_77 : decode cX7_cutTokens 77 = .ok (.iload_n 2, 1) := by decide +kernel
theorem dX7_cutTokens_78 : decode cX7_cutTokens 78 = .ok (.iload 4, 2) := by decide +kernel
theorem dX7_cutTokens_80 : decode cX7_cutTokens 80 = .ok (.invokevirtual 85, 3) := by decide +kernel
theorem dX7_cutTokens_83 : decode cX7_cutTokens 83 = .ok (.iastore, 1) := by decide +kernel
theorem dX7_cutTokens_84 : decode cX7_cutTokens 84 = .ok (.aload_n 0, 1) := by decide +kernel
theorem dX7_cutTokens_85 : decode cX7_cutTokens 85 = .ok (.getfield 18, 3) := by decide +kernel
theorem dX7_cutTokens_88 : decode cX7_cutTokens 88 = .ok (.iload_n 1, 1) := by decide +kernel
theorem dX7_cutTokens_89 : decode cX7_cutTokens 89 = .ok (.iload_n 2, 1) := by decide +kernel
theorem dX7_cutTokens_90 : decode cX7_cutTokens 90 = .ok (.iastore, 1) := by decide +kernel
theorem dX7_cutTokens_91 : decode cX7_cutTokens 91 = .ok (.iinc 1 1, 3) := by decide +kernel
theorem dX7_cutTokens_94 : decode cX7_cutTokens 94 = .ok (.iload 4, 2) := by decide +kernel
theorem dX7_cutTokens_96 : decode cX7_cutTokens 96 = .ok (.istore_n 2, 1) := by decide +kernel
theorem dX7_cutTokens_97 : decode cX7_cutTokens 97 = .ok (.goto (-93), 3) := by decide +kernel
theorem dX7_cutTokens_100 : decode cX7_cutTokens 100 = .ok (.aload_n 0, 1) := by decide +kernel
theorem dX7_cutTokens_101 : decode cX7_cutTokens 101 = .ok (.getfield 15, 3) := by decide +kernel
theorem dX7_cutTokens_104 : decode cX7_cutTokens 104 = .ok (.iload_n 1, 1) := by decide +kernel
theorem dX7_cutTokens_105 : decode cX7_cutTokens 105 = .ok (.sipush 256, 3) := by decide +kernel
theorem dX7_cutTokens_108 : decode cX7_cutTokens 108 = .ok (.iastore, 1) := by decide +kernel
theorem dX7_cutTokens_109 : decode cX7_cutTokens 109 = .ok (.aload_n 0, 1) := by decide +kernel
theorem dX7_cutTokens_110 : decode cX7_cutTokens 110 = .ok (.getfield 18, 3) := by decide +kernel
theorem dX7_cutTokens_113 : decode cX7_cutTokens 113 = .ok (.iload_n 1, 1) := by decide +kernel
theorem dX7_cutTokens_114 : decode cX7_cutTokens 114 = .ok (.aload_n 0, 1) := by decide +kernel
theorem dX7_cutTokens_115 : decode cX7_cutTokens 115 = .ok (.getfield 34, 3) := by decide +kernel
theorem dX7_cutTokens_118 : decode cX7_cutTokens 118 = .ok (.iastore, 1) := by decide +kernel
theorem dX7_cutTokens_119 : decode cX7_cutTokens 119 = .ok (.return_, 1) := by decide +kernel
theorem dX7_kindAt_0 : decode cX7_kindAt 0 = .ok (.aload_n 0, 1) := by decide +kernel
theorem dX7_kindAt_1 : decode cX7_kindAt 1 = .ok (.iload_n 1, 1) := by decide +kernel
theorem dX7_kindAt_2 : decode cX7_kindAt 2 = .ok (.invokevirtual 41, 3) := by decide +kernel
theorem dX7_kindAt_5 : decode cX7_kindAt 5 = .ok (.istore_n 2, 1) := by decide +kernel
theorem dX7_kindAt_6 : decode cX7_kindAt 6 = .ok (.iload_n 2, 1) := by decide +kernel
theorem dX7_kindAt_7 : decode cX7_kindAt 7 = .ok (.bipush 97, 2) := by decide +kernel
theorem dX7_kindAt_9 : decode cX7_kindAt 9 = .ok (.if_icmp .lt 11, 3) := by decide +kernel
theorem dX7_kindAt_12 : decode cX7_kindAt 12 = .ok (.iload_n 2, 1) := by decide +kernel
theorem dX7_kindAt_13 : decode cX7_kindAt 13 = .ok (.bipush 122, 2) := by decide +kernel
theorem dX7_kindAt_15 : decode cX7_kindAt 15 = .ok (.if_icmp .gt 5, 3) := by decide +kernel
theorem dX7_kindAt_18 : decode cX7_kindAt 18 = .ok (.iconst 0, 1) := by decide +kernel
theorem dX7_kindAt_19 : decode cX7_kindAt 19 = .ok (.ireturn, 1) := by decide +kernel
theorem dX7_kindAt_20 : decode cX7_kindAt 20 = .ok (.iload_n 2, 1) := by decide +kernel
theorem dX7_kindAt_21 : decode cX7_kindAt 21 = .ok (.bipush 48, 2) := by decide +kernel
theorem dX7_kindAt_23 : decode cX7_kindAt 23 = .ok (.if_icmp .lt 13, 3) := by decide +kernel
theorem dX7_kindAt_26 : decode cX7_kindAt 26 = .ok (.iload_n 2, 1) := by decide +kernel
theorem dX7_kindAt_27 : decode cX7_kindAt 27 = .ok (.bipush 57, 2) := by decide +kernel
theorem dX7_kindAt_29 : decode cX7_kindAt 29 = .ok (.if_icmp .gt 7, 3) := by decide +kernel
theorem dX7_kindAt_32 : decode cX7_kindAt 32 = .ok (.iconst 1, 1) := by decide +kernel
theorem dX7_kindAt_33 : decode cX7_kindAt 33 = .ok (.goto 4, 3) := by decide +kernel
theorem dX7_kindAt_36 : decode cX7_kindAt 36 = .ok (.iconst 2, 1) := by decide +kernel
theorem dX7_kindAt_37 : decode cX7_kindAt 37 = .ok (.ireturn, 1) := by decide +kernel
theorem dX7_tokenOf_0 : decode cX7_tokenOf 0 = .ok (.iload_n 1, 1) := by decide +kernel
theorem dX7_tokenOf_1 : decode cX7_tokenOf 1 = .ok (.iconst 2, 1) := by decide +kernel
theorem dX7_tokenOf_2 : decode cX7_tokenOf 2 = .ok (.if_icmp .ne 9, 3) := by decide +kernel
theorem dX7_tokenOf_5 : decode cX7_tokenOf 5 = .ok (.aload_n 0, 1) := by decide +kernel
theorem dX7_tokenOf_6 : decode cX7_tokenOf 6 = .ok (.iload_n 2, 1) := by decide +kernel
theorem dX7_tokenOf_7 : decode cX7_tokenOf 7 = .ok (.invokevirtual 41, 3) := by decide +kernel
theorem dX7_tokenOf_10 : decode cX7_tokenOf 10 = .ok (.ireturn, 1) := by decide +kernel
theorem dX7_tokenOf_11 : decode cX7_tokenOf 11 = .ok (.iload_n 1, 1) := by decide +kernel
theorem dX7_tokenOf_12 : decode cX7_tokenOf 12 = .ok (.ifCond .ne 10, 3) := by decide +kernel
theorem dX7_tokenOf_15 : decode cX7_tokenOf 15 = .ok (.aload_n 0, 1) := by decide +kernel
theorem dX7_tokenOf_16 : decode cX7_tokenOf 16 = .ok (.iload_n 2, 1) := by decide +kernel
theorem dX7_tokenOf_17 : decode cX7_tokenOf 17 = .ok (.iload_n 3, 1) := by decide +kernel
theorem dX7_tokenOf_18 : decode cX7_tokenOf 18 = .ok (.invokevirtual 89, 3) := by decide +kernel
theorem dX7_tokenOf_21 : decode cX7_tokenOf 21 = .ok (.ireturn, 1) := by decide +kernel
theorem dX7_tokenOf_22 : decode cX7_tokenOf 22 = .ok (.iconst 0, 1) := by decide +kernel
theorem dX7_tokenOf_23 : decode cX7_tokenOf 23 = .ok (.istore 4, 2) := by decide +kernel
theorem dX7_tokenOf_25 : decode cX7_tokenOf 25 = .ok (.iload_n 2, 1) := by decide +kernel
theorem dX7_tokenOf_26 : decode cX7_tokenOf 26 = .ok (.istore 5, 2) := by decide +kernel
theorem dX7_tokenOf_28 : decode cX7_tokenOf 28 = .ok (.iload 5, 2) := by decide +kernel
theorem dX7_tokenOf_30 : decode cX7_tokenOf 30 = .ok (.iload_n 3, 1) := by decide +kernel
theorem dX7_tokenOf_31 : decode cX7_tokenOf 31 = .ok (.if_icmp .ge 32, 3) := by decide +kernel
theorem dX7_tokenOf_34 : decode cX7_tokenOf 34 = .ok (.iload 4, 2) := by decide +kernel
theorem dX7_tokenOf_36 : decode cX7_tokenOf 36 = .ok (.bipush 10, 2) := by decide +kernel
theorem dX7_tokenOf_38 : decode cX7_tokenOf 38 = .ok (.imul, 1) := by decide +kernel
theorem dX7_tokenOf_39 : decode cX7_tokenOf 39 = .ok (.aload_n 0, 1) := by decide +kernel
theorem dX7_tokenOf_40 : decode cX7_tokenOf 40 = .ok (.iload 5, 2) := by decide +kernel
theorem dX7_tokenOf_42 : decode cX7_tokenOf 42 = .ok (.invokevirtual 41, 3) := by decide +kernel
theorem dX7_tokenOf_45 : decode cX7_tokenOf 45 = .ok (.iadd, 1) := by decide +kernel
theorem dX7_tokenOf_46 : decode cX7_tokenOf 46 = .ok (.bipush 48, 2) := by decide +kernel
theorem dX7_tokenOf_48 : decode cX7_tokenOf 48 = .ok (.isub, 1) := by decide +kernel
theorem dX7_tokenOf_49 : decode cX7_tokenOf 49 = .ok (.sipush 1001, 3) := by decide +kernel
theorem dX7_tokenOf_52 : decode cX7_tokenOf 52 = .ok (.invokestatic 93, 3) := by decide +kernel
theorem dX7_tokenOf_55 : decode cX7_tokenOf 55 = .ok (.istore 4, 2) := by decide +kernel
theorem dX7_tokenOf_57 : decode cX7_tokenOf 57 = .ok (.iinc 5 1, 3) := by decide +kernel
theorem dX7_tokenOf_60 : decode cX7_tokenOf 60 = .ok (.goto (-32), 3) := by decide +kernel
theorem dX7_tokenOf_63 : decode cX7_tokenOf 63 = .ok (.sipush 1000, 3) := by decide +kernel
theorem dX7_tokenOf_66 : decode cX7_tokenOf 66 = .ok (.iload 4, 2) := by decide +kernel
theorem dX7_tokenOf_68 : decode cX7_tokenOf 68 = .ok (.iadd, 1) := by decide +kernel
theorem dX7_tokenOf_69 : decode cX7_tokenOf 69 = .ok (.ireturn, 1) := by decide +kernel
theorem dX7_wordOf_0 : decode cX7_wordOf 0 = .ok (.sipush 258, 3) := by decide +kernel
theorem dX7_wordOf_3 : decode cX7_wordOf 3 = .ok (.istore_n 3, 1) := by decide +kernel
theorem dX7_wordOf_4 : decode cX7_wordOf 4 = .ok (.iconst 0, 1) := by decide +kernel
theorem dX7_wordOf_5 : decode cX7_wordOf 5 = .ok (.istore 4, 2) := by decide +kernel
theorem dX7_wordOf_7 : decode cX7_wordOf 7 = .ok (.iconst 1, 1) := by decide +kernel
theorem dX7_wordOf_8 : decode cX7_wordOf 8 = .ok (.istore 5, 2) := by decide +kernel
theorem dX7_wordOf_10 : decode cX7_wordOf 10 = .ok (.iconst 0, 1) := by decide +kernel
theorem dX7_wordOf_11 : decode cX7_wordOf 11 = .ok (.istore 6, 2) := by decide +kernel
theorem dX7_wordOf_13 : decode cX7_wordOf 13 = .ok (.iload 6, 2) := by decide +kernel
theorem dX7_wordOf_15 : decode cX7_wordOf 15 = .ok (.ldc 98, 2) := by decide +kernel
theorem dX7_wordOf_17 : decode cX7_wordOf 17 = .ok (.invokevirtual 100, 3) := by decide +kernel
theorem dX7_wordOf_20 : decode cX7_wordOf 20 = .ok (.if_icmp .gt 99, 3) := by decide +kernel
theorem dX7_wordOf_23 : decode cX7_wordOf 23 = .ok (.iload 6, 2) := by decide +kernel
theorem dX7_wordOf_25 : decode cX7_wordOf 25 = .ok (.ldc 98, 2) := by decide +kernel
theorem dX7_wordOf_27 : decode cX7_wordOf 27 = .ok (.invokevirtual 100, 3) := by decide +kernel
theorem dX7_wordOf_30 : decode cX7_wordOf 30 = .ok (.if_icmp .ge 59, 3) := by decide +kernel
theorem dX7_wordOf_33 : decode cX7_wordOf 33 = .ok (.ldc 98, 2) := by decide +kernel
theorem dX7_wordOf_35 : decode cX7_wordOf 35 = .ok (.iload 6, 2) := by decide +kernel
theorem dX7_wordOf_37 : decode cX7_wordOf 37 = .ok (.invokevirtual 106, 3) := by decide +kernel
theorem dX7_wordOf_40 : decode cX7_wordOf 40 = .ok (.bipush 32, 2) := by decide +kernel
theorem dX7_wordOf_42 : decode cX7_wordOf 42 = .ok (.if_icmp .eq 47, 3) := by decide +kernel
theorem dX7_wordOf_45 : decode cX7_wordOf 45 = .ok (.iload 5, 2) := by decide +kernel
theorem dX7_wordOf_47 : decode cX7_wordOf 47 = .ok (.ifCond .eq 33, 3) := by decide +kernel
theorem dX7_wordOf_50 : decode cX7_wordOf 50 = .ok (.iload 4, 2) := by decide +kernel
theorem dX7_wordOf_52 : decode cX7_wordOf 52 = .ok (.iload_n 2, 1) := by decide +kernel
theorem dX7_wordOf_53 : decode cX7_wordOf 53 = .ok (.iload_n 1, 1) := by decide +kernel
theorem dX7_wordOf_54 : decode cX7_wordOf 54 = .ok (.isub, 1) := by decide +kernel
theorem dX7_wordOf_55 : decode cX7_wordOf 55 = .ok (.if_icmp .ge 25, 3) := by decide +kernel
theorem dX7_wordOf_58 : decode cX7_wordOf 58 = .ok (.aload_n 0, 1) := by decide +kernel
theorem dX7_wordOf_59 : decode cX7_wordOf 59 = .ok (.iload_n 1, 1) := by decide +kernel
theorem dX7_wordOf_60 : decode cX7_wordOf 60 = .ok (.iload 4, 2) := by decide +kernel
theorem dX7_wordOf_62 : decode cX7_wordOf 62 = .ok (.iadd, 1) := by decide +kernel
theorem dX7_wordOf_63 : decode cX7_wordOf 63 = .ok (.invokevirtual 41, 3) := by decide +kernel
theorem dX7_wordOf_66 : decode cX7_wordOf 66 = .ok (.ldc 98, 2) := by decide +kernel
theorem dX7_wordOf_68 : decode cX7_wordOf 68 = .ok (.iload 6, 2) := by decide +kernel
theorem dX7_wordOf_70 : decode cX7_wordOf 70 = .ok (.invokevirtual 106, 3) := by decide +kernel
theorem dX7_wordOf_73 : decode cX7_wordOf 73 = .ok (.if_icmp .ne 7, 3) := by decide +kernel
theorem dX7_wordOf_76 : decode cX7_wordOf 76 = .ok (.iconst 1, 1) := by decide +kernel
theorem dX7_wordOf_77 : decode cX7_wordOf 77 = .ok (.goto 4, 3) := by decide +kernel
theorem dX7_wordOf_80 : decode cX7_wordOf 80 = .ok (.iconst 0, 1) := by decide +kernel
theorem dX7_wordOf_81 : decode cX7_wordOf 81 = .ok (.istore 5, 2) := by decide +kernel
theorem dX7_wordOf_83 : decode cX7_wordOf 83 = .ok (.iinc 4 1, 3) := by decide +kernel
theorem dX7_wordOf_86 : decode cX7_wordOf 86 = .ok (.goto 27, 3) := by decide +kernel
theorem dX7_wordOf_89 : decode cX7_wordOf 89 = .ok (.iload 5, 2) := by decide +kernel
theorem dX7_wordOf_91 : decode cX7_wordOf 91 = .ok (.ifCond .eq 13, 3) := by decide +kernel
theorem dX7_wordOf_94 : decode cX7_wordOf 94 = .ok (.iload 4, 2) := by decide +kernel
theorem dX7_wordOf_96 : decode cX7_wordOf 96 = .ok (.iload_n 2, 1) := by decide +kernel
theorem dX7_wordOf_97 : decode cX7_wordOf 97 = .ok (.iload_n 1, 1) := by decide +kernel
theorem dX7_wordOf_98 : decode cX7_wordOf 98 = .ok (.isub, 1) := by decide +kernel
theorem dX7_wordOf_99 : decode cX7_wordOf 99 = .ok (.if_icmp .ne 5, 3) := by decide +kernel
theorem dX7_wordOf_102 : decode cX7_wordOf 102 = .ok (.iload_n 3, 1) := by decide +kernel
theorem dX7_wordOf_103 : decode cX7_wordOf 103 = .ok (.ireturn, 1) := by decide +kernel
theorem dX7_wordOf_104 : decode cX7_wordOf 104 = .ok (.iinc 3 1, 3) := by decide +kernel
theorem dX7_wordOf_107 : decode cX7_wordOf 107 = .ok (.iconst 0, 1) := by decide +kernel
theorem dX7_wordOf_108 : decode cX7_wordOf 108 = .ok (.istore 4, 2) := by decide +kernel
theorem dX7_wordOf_110 : decode cX7_wordOf 110 = .ok (.iconst 1, 1) := by decide +kernel
theorem dX7_wordOf_111 : decode cX7_wordOf 111 = .ok (.istore 5, 2) := by decide +kernel
theorem dX7_wordOf_113 : decode cX7_wordOf 113 = .ok (.iinc 6 1, 3) := by decide +kernel
theorem dX7_wordOf_116 : decode cX7_wordOf 116 = .ok (.goto (-103), 3) := by decide +kernel
theorem dX7_wordOf_119 : decode cX7_wordOf 119 = .ok (.sipush 257, 3) := by decide +kernel
theorem dX7_wordOf_122 : decode cX7_wordOf 122 = .ok (.ireturn, 1) := by decide +kernel
theorem dX7_next_0 : decode cX7_next 0 = .ok (.aload_n 0, 1) := by decide +kernel
theorem dX7_next_1 : decode cX7_next 1 = .ok (.aload_n 0, 1) := by decide +kernel
theorem dX7_next_2 : decode cX7_next 2 = .ok (.getfield 63, 3) := by decide +kernel
theorem dX7_next_5 : decode cX7_next 5 = .ok (.sipush 400, 3) := by decide +kernel
theorem dX7_next_8 : decode cX7_next 8 = .ok (.if_icmp .ge 12, 3) := by decide +kernel
theorem dX7_next_11 : decode cX7_next 11 = .ok (.aload_n 0, 1) := by decide +kernel
theorem dX7_next_12 : decode cX7_next 12 = .ok (.getfield 63, 3) := by decide +kernel
theorem dX7_next_15 : decode cX7_next 15 = .ok (.iconst 1, 1) := by decide +kernel
theorem dX7_next_16 : decode cX7_next 16 = .ok (.iadd, 1) := by decide +kernel
theorem dX7_next_17 : decode cX7_next 17 = .ok (.goto 7, 3) := by decide +kernel
theorem dX7_next_20 : decode cX7_next 20 = .ok (.aload_n 0, 1) := by decide +kernel
theorem dX7_next_21 : decode cX7_next 21 = .ok (.getfield 63, 3) := by decide +kernel
theorem dX7_next_24 : decode cX7_next 24 = .ok (.putfield 63, 3) := by decide +kernel
theorem dX7_next_27 : decode cX7_next 27 = .ok (.aload_n 0, 1) := by decide +kernel
theorem dX7_next_28 : decode cX7_next 28 = .ok (.aload_n 0, 1) := by decide +kernel
theorem dX7_next_29 : decode cX7_next 29 = .ok (.getfield 15, 3) := by decide +kernel
theorem dX7_next_32 : decode cX7_next 32 = .ok (.aload_n 0, 1) := by decide +kernel
theorem dX7_next_33 : decode cX7_next 33 = .ok (.getfield 63, 3) := by decide +kernel
theorem dX7_next_36 : decode cX7_next 36 = .ok (.iaload, 1) := by decide +kernel
theorem dX7_next_37 : decode cX7_next 37 = .ok (.putfield 66, 3) := by decide +kernel
theorem dX7_next_40 : decode cX7_next 40 = .ok (.return_, 1) := by decide +kernel
theorem dX7_fail_0 : decode cX7_fail 0 = .ok (.aload_n 0, 1) := by decide +kernel
theorem dX7_fail_1 : decode cX7_fail 1 = .ok (.aload_n 0, 1) := by decide +kernel
theorem dX7_fail_2 : decode cX7_fail 2 = .ok (.getfield 18, 3) := by decide +kernel
theorem dX7_fail_5 : decode cX7_fail 5 = .ok (.aload_n 0, 1) := by decide +kernel
theorem dX7_fail_6 : decode cX7_fail 6 = .ok (.getfield 63, 3) := by decide +kernel
theorem dX7_fail_9 : decode cX7_fail 9 = .ok (.iaload, 1) := by decide +kernel
theorem dX7_fail_10 : decode cX7_fail 10 = .ok (.putfield 30, 3) := by decide +kernel
theorem dX7_fail_13 : decode cX7_fail 13 = .ok (.iconst 0, 1) := by decide +kernel
theorem dX7_fail_14 : decode cX7_fail 14 = .ok (.ireturn, 1) := by decide +kernel
theorem dX7_lawClause_0 : decode cX7_lawClause 0 = .ok (.aload_n 0, 1) := by decide +kernel
theorem dX7_lawClause_1 : decode cX7_lawClause 1 = .ok (.getfield 66, 3) := by decide +kernel
theorem dX7_lawClause_4 : decode cX7_lawClause 4 = .ok (.sipush 258, 3) := by decide +kernel
theorem dX7_lawClause_7 : decode cX7_lawClause 7 = .ok (.if_icmp .eq 18, 3) := by decide +kernel
theorem dX7_lawClause_10 : decode cX7_lawClause 10 = .ok (.aload_n 0, 1) := by decide +kernel
theorem dX7_lawClause_11 : decode cX7_lawClause 11 = .ok (.getfield 66, 3) := by decide +kernel
theorem dX7_lawClause_14 : decode cX7_lawClause 14 = .ok (.sipush 259, 3) := by decide +kernel
theorem dX7_lawClause_17 : decode cX7_lawClause 17 = .ok (.if_icmp .eq 8, 3) := by decide +kernel
theorem dX7_lawClause_20 : decode cX7_lawClause 20 = .ok (.aload_n 0, 1) := by decide +kernel
theorem dX7_lawClause_21 : decode cX7_lawClause 21 = .ok (.invokevirtual 76, 3) := by decide +kernel
theorem dX7_lawClause_24 : decode cX7_lawClause 24 = .ok (.ireturn, 1) := by decide +kernel
theorem dX7_lawClause_25 : decode cX7_lawClause 25 = .ok (.aload_n 0, 1) := by decide +kernel
theorem dX7_lawClause_26 : decode cX7_lawClause 26 = .ok (.getfield 66, 3) := by decide +kernel
theorem dX7_lawClause_29 : decode cX7_lawClause 29 = .ok (.sipush 258, 3) := by decide +kernel
theorem dX7_lawClause_32 : decode cX7_lawClause 32 = .ok (.isub, 1) := by decide +kernel
theorem dX7_lawClause_33 : decode cX7_lawClause 33 = .ok (.istore_n 1, 1) := by decide +kernel
theorem dX7_lawClause_34 : decode cX7_lawClause 34 = .ok (.aload_n 0, 1) := by decide +kernel
theorem dX7_lawClause_35 : decode cX7_lawClause 35 = .ok (.getfield 26, 3) := by decide +kernel
theorem dX7_lawClause_38 : decode cX7_lawClause 38 = .ok (.iload_n 1, 1) := by decide +kernel
theorem dX7_lawClause_39 : decode cX7_lawClause 39 = .ok (.invokevirtual 110, 3) := by decide +kernel
theorem dX7_lawClause_42 : decode cX7_lawClause 42 = .ok (.aload_n 0, 1) := by decide +kernel
theorem dX7_lawClause_43 : decode cX7_lawClause 43 = .ok (.invokevirtual 79, 3) := by decide +kernel
theorem dX7_lawClause_46 : decode cX7_lawClause 46 = .ok (.iload_n 1, 1) := by decide +kernel
theorem dX7_lawClause_47 : decode cX7_lawClause 47 = .ok (.ifCond .ne 11, 3) := by decide +kernel
theorem dX7_lawClause_50 : decode cX7_lawClause 50 = .ok (.aload_n 0, 1) := by decide +kernel
theorem dX7_lawClause_51 : decode cX7_lawClause 51 = .ok (.iconst 3, 1) := by decide +kernel
theorem dX7_lawClause_52 : decode cX7_lawClause 52 = .ok (.invokevirtual 114, 3) := by decide +kernel
theorem dX7_lawClause_55 : decode cX7_lawClause 55 = .ok (.ifCond .eq 14, 3) := by decide +kernel
theorem dX7_lawClause_58 : decode cX7_lawClause 58 = .ok (.aload_n 0, 1) := by decide +kernel
theorem dX7_lawClause_59 : decode cX7_lawClause 59 = .ok (.invokevirtual 117, 3) := by decide +kernel
theorem dX7_lawClause_62 : decode cX7_lawClause 62 = .ok (.ifCond .eq 7, 3) := by decide +kernel
theorem dX7_lawClause_65 : decode cX7_lawClause 65 = .ok (.iconst 1, 1) := by decide +kernel
theorem dX7_lawClause_66 : decode cX7_lawClause 66 = .ok (.goto 4, 3) := by decide +kernel
theorem dX7_lawClause_69 : decode cX7_lawClause 69 = .ok (.iconst 0, 1) := by decide +kernel
theorem dX7_lawClause_70 : decode cX7_lawClause 70 = .ok (.ireturn, 1) := by decide +kernel
theorem dX7_orderClause_0 : decode cX7_orderClause 0 = .ok (.aload_n 0, 1) := by decide +kernel
theorem dX7_orderClause_1 : decode cX7_orderClause 1 = .ok (.getfield 66, 3) := by decide +kernel
theorem dX7_orderClause_4 : decode cX7_orderClause 4 = .ok (.sipush 260, 3) := by decide +kernel
theorem dX7_orderClause_7 : decode cX7_orderClause 7 = .ok (.if_icmp .ne 7, 3) := by decide +kernel
theorem dX7_orderClause_10 : decode cX7_orderClause 10 = .ok (.iconst 1, 1) := by decide +kernel
theorem dX7_orderClause_11 : decode cX7_orderClause 11 = .ok (.goto 4, 3) := by decide +kernel
theorem dX7_orderClause_14 : decode cX7_orderClause 14 = .ok (.iconst 0, 1) := by decide +kernel
theorem dX7_orderClause_15 : decode cX7_orderClause 15 = .ok (.istore_n 1, 1) := by decide +kernel
theorem dX7_orderClause_16 : decode cX7_orderClause 16 = .ok (.iload_n 1, 1) := by decide +kernel
theorem dX7_orderClause_17 : decode cX7_orderClause 17 = .ok (.ifCond .ne 18, 3) := by decide +kernel
theorem dX7_orderClause_20 : decode cX7_orderClause 20 = .ok (.aload_n 0, 1) := by decide +kernel
theorem dX7_orderClause_21 : decode cX7_orderClause 21 = .ok (.getfield 66, 3) := by decide +kernel
theorem dX7_orderClause_24 : decode cX7_orderClause 24 = .ok (.sipush 278, 3) := by decide +kernel
theorem dX7_orderClause_27 : decode cX7_orderClause 27 = .ok (.if_icmp .eq 8, 3) := by decide +kernel
theorem dX7_orderClause_30 : decode cX7_orderClause 30 = .ok (.aload_n 0, 1) := by decide +kernel
theorem dX7_orderClause_31 : decode cX7_orderClause 31 = .ok (.invokevirtual 76, 3) := by decide +kernel
theorem dX7_orderClause_34 : decode cX7_orderClause 34 = .ok (.ireturn, 1) := by decide +kernel
theorem dX7_orderClause_35 : decode cX7_orderClause 35 = .ok (.aload_n 0, 1) := by decide +kernel
theorem dX7_orderClause_36 : decode cX7_orderClause 36 = .ok (.getfield 26, 3) := by decide +kernel
theorem dX7_orderClause_39 : decode cX7_orderClause 39 = .ok (.iconst 5, 1) := by decide +kernel
theorem dX7_orderClause_40 : decode cX7_orderClause 40 = .ok (.invokevirtual 110, 3) := by decide +kernel
theorem dX7_orderClause_43 : decode cX7_orderClause 43 = .ok (.aload_n 0, 1) := by decide +kernel
theorem dX7_orderClause_44 : decode cX7_orderClause 44 = .ok (.invokevirtual 79, 3) := by decide +kernel
theorem dX7_orderClause_47 : decode cX7_orderClause 47 = .ok (.aload_n 0, 1) := by decide +kernel
theorem dX7_orderClause_48 : decode cX7_orderClause 48 = .ok (.iconst 3, 1) := by decide +kernel
theorem dX7_orderClause_49 : decode cX7_orderClause 49 = .ok (.invokevirtual 114, 3) := by decide +kernel
theorem dX7_orderClause_52 : decode cX7_orderClause 52 = .ok (.ifCond .eq 14, 3) := by decide +kernel
theorem dX7_orderClause_55 : decode cX7_orderClause 55 = .ok (.iload_n 1, 1) := by decide +kernel
theorem dX7_orderClause_56 : decode cX7_orderClause 56 = .ok (.ifCond .eq 12, 3) := by decide +kernel
theorem dX7_orderClause_59 : decode cX7_orderClause 59 = .ok (.aload_n 0, 1) := by decide +kernel
theorem dX7_orderClause_60 : decode cX7_orderClause 60 = .ok (.invokevirtual 120, 3) := by decide +kernel
theorem dX7_orderClause_63 : decode cX7_orderClause 63 = .ok (.ifCond .ne 5, 3) := by decide +kernel
theorem dX7_orderClause_66 : decode cX7_orderClause 66 = .ok (.iconst 0, 1) := by decide +kernel
theorem dX7_orderClause_67 : decode cX7_orderClause 67 = .ok (.ireturn, 1) := by decide +kernel
theorem dX7_orderClause_68 : decode cX7_orderClause 68 = .ok (.aload_n 0, 1) := by decide +kernel
theorem dX7_orderClause_69 : decode cX7_orderClause 69 = .ok (.getfield 66, 3) := by decide +kernel
theorem dX7_orderClause_72 : decode cX7_orderClause 72 = .ok (.sipush 261, 3) := by decide +kernel
theorem dX7_orderClause_75 : decode cX7_orderClause 75 = .ok (.if_icmp .ne 52, 3) := by decide +kernel
theorem dX7_orderClause_78 : decode cX7_orderClause 78 = .ok (.aload_n 0, 1) := by decide +kernel
theorem dX7_orderClause_79 : decode cX7_orderClause 79 = .ok (.invokevirtual 79, 3) := by decide +kernel
theorem dX7_orderClause_82 : decode cX7_orderClause 82 = .ok (.aload_n 0, 1) := by decide +kernel
theorem dX7_orderClause_83 : decode cX7_orderClause 83 = .ok (.getfield 66, 3) := by decide +kernel
theorem dX7_orderClause_86 : decode cX7_orderClause 86 = .ok (.sipush 1001, 3) := by decide +kernel
theorem dX7_orderClause_89 : decode cX7_orderClause 89 = .ok (.if_icmp .lt 13, 3) := by decide +kernel
theorem dX7_orderClause_92 : decode cX7_orderClause 92 = .ok (.aload_n 0, 1) := by decide +kernel
theorem dX7_orderClause_93 : decode cX7_orderClause 93 = .ok (.getfield 66, 3) := by decide +kernel
theorem dX7_orderClause_96 : decode cX7_orderClause 96 = .ok (.sipush 1020, 3) := by decide +kernel
theorem dX7_orderClause_99 : decode cX7_orderClause 99 = .ok (.if_icmp .le 8, 3) := by decide +kernel
theorem dX7_orderClause_102 : decode cX7_orderClause 102 = .ok (.aload_n 0, 1) := by decide +kernel
theorem dX7_orderClause_103 : decode cX7_orderClause 103 = .ok (.invokevirtual 76, 3) := by decide +kernel
theorem dX7_orderClause_106 : decode cX7_orderClause 106 = .ok (.ireturn, 1) := by decide +kernel
theorem dX7_orderClause_107 : decode cX7_orderClause 107 = .ok (.aload_n 0, 1) := by decide +kernel
theorem dX7_orderClause_108 : decode cX7_orderClause 108 = .ok (.getfield 26, 3) := by decide +kernel
theorem dX7_orderClause_111 : decode cX7_orderClause 111 = .ok (.iconst 1, 1) := by decide +kernel
theorem dX7_orderClause_112 : decode cX7_orderClause 112 = .ok (.aload_n 0, 1) := by decide +kernel
theorem dX7_orderClause_113 : decode cX7_orderClause 113 = .ok (.getfield 66, 3) := by decide +kernel
theorem dX7_orderClause_116 : decode cX7_orderClause 116 = .ok (.sipush 1000, 3) := by decide +kernel
theorem dX7_orderClause_119 : decode cX7_orderClause 119 = .ok (.isub, 1) := by decide +kernel
theorem dX7_orderClause_120 : decode cX7_orderClause 120 = .ok (.invokevirtual 123, 3) := by decide +kernel
theorem dX7_orderClause_123 : decode cX7_orderClause 123 = .ok (.aload_n 0, 1) := by decide +kernel
theorem dX7_orderClause_124 : decode cX7_orderClause 124 = .ok (.invokevirtual 79, 3) := by decide +kernel
theorem dX7_orderClause_127 : decode cX7_orderClause 127 = .ok (.aload_n 0, 1) := by decide +kernel
theorem dX7_orderClause_128 : decode cX7_orderClause 128 = .ok (.invokevirtual 117, 3) := by decide +kernel
theorem dX7_orderClause_131 : decode cX7_orderClause 131 = .ok (.ireturn, 1) := by decide +kernel
theorem dX7_how_0 : decode cX7_how 0 = .ok (.aload_n 0, 1) := by decide +kernel
theorem dX7_how_1 : decode cX7_how 1 = .ok (.getfield 66, 3) := by decide +kernel
theorem dX7_how_4 : decode cX7_how 4 = .ok (.sipush 267, 3) := by decide +kernel
theorem dX7_how_7 : decode cX7_how 7 = .ok (.if_icmp .lt 13, 3) := by decide +kernel
theorem dX7_how_10 : decode cX7_how 10 = .ok (.aload_n 0, 1) := by decide +kernel
theorem dX7_how_11 : decode cX7_how 11 = .ok (.getfield 66, 3) := by decide +kernel
theorem dX7_how_14 : decode cX7_how 14 = .ok (.sipush 271, 3) := by decide +kernel
theorem dX7_how_17 : decode cX7_how 17 = .ok (.if_icmp .le 8, 3) := by decide +kernel
theorem dX7_how_20 : decode cX7_how 20 = .ok (.aload_n 0, 1) := by decide +kernel
theorem dX7_how_21 : decode cX7_how 21 = .ok (.invokevirtual 76, 3) := by decide +kernel
theorem dX7_how_24 : decode cX7_how 24 = .ok (.ireturn, 1) := by decide +kernel
theorem dX7_how_25 : decode cX7_how 25 = .ok (.aload_n 0, 1) := by decide +kernel
theorem dX7_how_26 : decode cX7_how 26 = .ok (.getfield 66, 3) := by decide +kernel
theorem dX7_how_29 : decode cX7_how 29 = .ok (.sipush 267, 3) := by decide +kernel
theorem dX7_how_32 : decode cX7_how 32 = .ok (.isub, 1) := by decide +kernel
theorem dX7_how_33 : decode cX7_how 33 = .ok (.istore_n 1, 1) := by decide +kernel
theorem dX7_how_34 : decode cX7_how 34 = .ok (.aload_n 0, 1) := by decide +kernel
theorem dX7_how_35 : decode cX7_how 35 = .ok (.getfield 26, 3) := by decide +kernel
theorem dX7_how_38 : decode cX7_how 38 = .ok (.iconst 0, 1) := by decide +kernel
theorem dX7_how_39 : decode cX7_how 39 = .ok (.iload_n 1, 1) := by decide +kernel
theorem dX7_how_40 : decode cX7_how 40 = .ok (.invokevirtual 123, 3) := by decide +kernel
theorem dX7_how_43 : decode cX7_how 43 = .ok (.aload_n 0, 1) := by decide +kernel
theorem dX7_how_44 : decode cX7_how 44 = .ok (.invokevirtual 79, 3) := by decide +kernel
theorem dX7_how_47 : decode cX7_how 47 = .ok (.iload_n 1, 1) := by decide +kernel
theorem dX7_how_48 : decode cX7_how 48 = .ok (.iconst 1, 1) := by decide +kernel
theorem dX7_how_49 : decode cX7_how 49 = .ok (.if_icmp .ne 13, 3) := by decide +kernel
theorem dX7_how_52 : decode cX7_how 52 = .ok (.aload_n 0, 1) := by decide +kernel
theorem dX7_how_53 : decode cX7_how 53 = .ok (.iconst 4, 1) := by decide +kernel
theorem dX7_how_54 : decode cX7_how 54 = .ok (.invokevirtual 114, 3) := by decide +kernel
theorem dX7_how_57 : decode cX7_how 57 = .ok (.ifCond .ne 5, 3) := by decide +kernel
theorem dX7_how_60 : decode cX7_how 60 = .ok (.iconst 0, 1) := by decide +kernel
theorem dX7_how_61 : decode cX7_how 61 = .ok (.ireturn, 1) := by decide +kernel
theorem dX7_how_62 : decode cX7_how 62 = .ok (.aload_n 0, 1) := by decide +kernel
theorem dX7_how_63 : decode cX7_how 63 = .ok (.getfield 66, 3) := by decide +kernel
theorem dX7_how_66 : decode cX7_how 66 = .ok (.sipush 266, 3) := by decide +kernel
theorem dX7_how_69 : decode cX7_how 69 = .ok (.if_icmp .eq 8, 3) := by decide +kernel
theorem dX7_how_72 : decode cX7_how 72 = .ok (.aload_n 0, 1) := by decide +kernel
theorem dX7_how_73 : decode cX7_how 73 = .ok (.invokevirtual 76, 3) := by decide +kernel
theorem dX7_how_76 : decode cX7_how 76 = .ok (.ireturn, 1) := by decide +kernel
theorem dX7_how_77 : decode cX7_how 77 = .ok (.aload_n 0, 1) := by decide +kernel
theorem dX7_how_78 : decode cX7_how 78 = .ok (.invokevirtual 79, 3) := by decide +kernel
theorem dX7_how_81 : decode cX7_how 81 = .ok (.aload_n 0, 1) := by decide +kernel
theorem dX7_how_82 : decode cX7_how 82 = .ok (.iconst 5, 1) := by decide +kernel
theorem dX7_how_83 : decode cX7_how 83 = .ok (.invokevirtual 114, 3) := by decide +kernel
theorem dX7_how_86 : decode cX7_how 86 = .ok (.ireturn, 1) := by decide +kernel
theorem dX7_condition_0 : decode cX7_condition 0 = .ok (.aload_n 0, 1) := by decide +kernel
theorem dX7_condition_1 : decode cX7_condition 1 = .ok (.getfield 66, 3) := by decide +kernel
theorem dX7_condition_4 : decode cX7_condition 4 = .ok (.sipush 262, 3) := by decide +kernel
theorem dX7_condition_7 : decode cX7_condition 7 = .ok (.if_icmp .eq 5, 3) := by decide +kernel
theorem dX7_condition_10 : decode cX7_condition 10 = .ok (.iconst 1, 1) := by decide +kernel
theorem dX7_condition_11 : decode cX7_condition 11 = .ok (.ireturn, 1) := by decide +kernel
theorem dX7_condition_12 : decode cX7_condition 12 = .ok (.aload_n 0, 1) := by decide +kernel
theorem dX7_condition_13 : decode cX7_condition 13 = .ok (.invokevirtual 79, 3) := by decide +kernel
theorem dX7_condition_16 : decode cX7_condition 16 = .ok (.aload_n 0, 1) := by decide +kernel
theorem dX7_condition_17 : decode cX7_condition 17 = .ok (.getfield 26, 3) := by decide +kernel
theorem dX7_condition_20 : decode cX7_condition 20 = .ok (.iconst 2, 1) := by decide +kernel
theorem dX7_condition_21 : decode cX7_condition 21 = .ok (.aload_n 0, 1) := by decide +kernel
theorem dX7_condition_22 : decode cX7_condition 22 = .ok (.getfield 26, 3) := by decide +kernel
theorem dX7_condition_25 : decode cX7_condition 25 = .ok (.getfield 126, 3) := by decide +kernel
theorem dX7_condition_28 : decode cX7_condition 28 = .ok (.invokevirtual 123, 3) := by decide +kernel
theorem dX7_condition_31 : decode cX7_condition 31 = .ok (.aload_n 0, 1) := by decide +kernel
theorem dX7_condition_32 : decode cX7_condition 32 = .ok (.iconst 0, 1) := by decide +kernel
theorem dX7_condition_33 : decode cX7_condition 33 = .ok (.invokevirtual 129, 3) := by decide +kernel
theorem dX7_condition_36 : decode cX7_condition 36 = .ok (.ifCond .ne 5, 3) := by decide +kernel
theorem dX7_condition_39 : decode cX7_condition 39 = .ok (.iconst 0, 1) := by decide +kernel
theorem dX7_condition_40 : decode cX7_condition 40 = .ok (.ireturn, 1) := by decide +kernel
theorem dX7_condition_41 : decode cX7_condition 41 = .ok (.aload_n 0, 1) := by decide +kernel
theorem dX7_condition_42 : decode cX7_condition 42 = .ok (.getfield 26, 3) := by decide +kernel
theorem dX7_condition_45 : decode cX7_condition 45 = .ok (.iconst 0, 1) := by decide +kernel
theorem dX7_condition_46 : decode cX7_condition 46 = .ok (.iconst 0, 1) := by decide +kernel
theorem dX7_condition_47 : decode cX7_condition 47 = .ok (.invokevirtual 134, 3) := by decide +kernel
theorem dX7_condition_50 : decode cX7_condition 50 = .ok (.pop, 1) := by decide +kernel
theorem dX7_condition_51 : decode cX7_condition 51 = .ok (.iconst 1, 1) := by decide +kernel
theorem dX7_condition_52 : decode cX7_condition 52 = .ok (.ireturn, 1) := by decide +kernel
theorem dX7_sumFor_0 : decode cX7_sumFor 0 = .ok (.aload_n 0, 1) := by decide +kernel
theorem dX7_sumFor_1 : decode cX7_sumFor 1 = .ok (.getfield 26, 3) := by decide +kernel
theorem dX7_sumFor_4 : decode cX7_sumFor 4 = .ok (.iload_n 1, 1) := by decide +kernel
theorem dX7_sumFor_5 : decode cX7_sumFor 5 = .ok (.aload_n 0, 1) := by decide +kernel
theorem dX7_sumFor_6 : decode cX7_sumFor 6 = .ok (.getfield 26, 3) := by decide +kernel
theorem dX7_sumFor_9 : decode cX7_sumFor 9 = .ok (.getfield 126, 3) := by decide +kernel
theorem dX7_sumFor_12 : decode cX7_sumFor 12 = .ok (.invokevirtual 123, 3) := by decide +kernel
theorem dX7_sumFor_15 : decode cX7_sumFor 15 = .ok (.aload_n 0, 1) := by decide +kernel
theorem dX7_sumFor_16 : decode cX7_sumFor 16 = .ok (.iconst 0, 1) := by decide +kernel
theorem dX7_sumFor_17 : decode cX7_sumFor 17 = .ok (.invokevirtual 137, 3) := by decide +kernel
theorem dX7_sumFor_20 : decode cX7_sumFor 20 = .ok (.ifCond .ne 5, 3) := by decide +kernel
theorem dX7_sumFor_23 : decode cX7_sumFor 23 = .ok (.iconst 0, 1) := by decide +kernel
theorem dX7_sumFor_24 : decode cX7_sumFor 24 = .ok (.ireturn, 1) := by decide +kernel
theorem dX7_sumFor_25 : decode cX7_sumFor 25 = .ok (.aload_n 0, 1) := by decide +kernel
theorem dX7_sumFor_26 : decode cX7_sumFor 26 = .ok (.getfield 26, 3) := by decide +kernel
theorem dX7_sumFor_29 : decode cX7_sumFor 29 = .ok (.iconst 0, 1) := by decide +kernel
theorem dX7_sumFor_30 : decode cX7_sumFor 30 = .ok (.iconst 0, 1) := by decide +kernel
theorem dX7_sumFor_31 : decode cX7_sumFor 31 = .ok (.invokevirtual 134, 3) := by decide +kernel
theorem dX7_sumFor_34 : decode cX7_sumFor 34 = .ok (.pop, 1) := by decide +kernel
theorem dX7_sumFor_35 : decode cX7_sumFor 35 = .ok (.iconst 1, 1) := by decide +kernel
theorem dX7_sumFor_36 : decode cX7_sumFor 36 = .ok (.ireturn, 1) := by decide +kernel
theorem dX7_test_0 : decode cX7_test 0 = .ok (.aload_n 0, 1) := by decide +kernel
theorem dX7_test_1 : decode cX7_test 1 = .ok (.iload_n 1, 1) := by decide +kernel
theorem dX7_test_2 : decode cX7_test 2 = .ok (.invokevirtual 140, 3) := by decide +kernel
theorem dX7_test_5 : decode cX7_test 5 = .ok (.ifCond .ne 5, 3) := by decide +kernel
theorem dX7_test_8 : decode cX7_test 8 = .ok (.iconst 0, 1) := by decide +kernel
theorem dX7_test_9 : decode cX7_test 9 = .ok (.ireturn, 1) := by decide +kernel
theorem dX7_test_10 : decode cX7_test 10 = .ok (.iconst 0, 1) := by decide +kernel
theorem dX7_test_11 : decode cX7_test 11 = .ok (.istore_n 2, 1) := by decide +kernel
theorem dX7_test_12 : decode cX7_test 12 = .ok (.iload_n 2, 1) := by decide +kernel
theorem dX7_test_13 : decode cX7_test 13 = .ok (.sipush 400, 3) := by decide +kernel
theorem dX7_test_16 : decode cX7_test 16 = .ok (.if_icmp .ge 52, 3) := by decide +kernel
theorem dX7_test_19 : decode cX7_test 19 = .ok (.aload_n 0, 1) := by decide +kernel
theorem dX7_test_20 : decode cX7_test 20 = .ok (.getfield 66, 3) := by decide +kernel
theorem dX7_test_23 : decode cX7_test 23 = .ok (.sipush 263, 3) := by decide +kernel
theorem dX7_test_26 : decode cX7_test 26 = .ok (.if_icmp .ne 42, 3) := by decide +kernel
theorem dX7_test_29 : decode cX7_test 29 = .ok (.aload_n 0, 1) := by decide +kernel
theorem dX7_test_30 : decode cX7_test 30 = .ok (.getfield 26, 3) := by decide +kernel
theorem dX7_test_33 : decode cX7_test 33 = .ok (.bipush 12, 2) := by decide +kernel
theorem dX7_test_35 : decode cX7_test 35 = .ok (.iconst 0, 1) := by decide +kernel
theorem dX7_test_36 : decode cX7_test 36 = .ok (.invokevirtual 134, 3) := by decide +kernel
theorem dX7_test_39 : decode cX7_test 39 = .ok (.istore_n 3, 1) := by decide +kernel
theorem dX7_test_40 : decode cX7_test 40 = .ok (.aload_n 0, 1) := by decide +kernel
theorem dX7_test_41 : decode cX7_test 41 = .ok (.invokevirtual 79, 3) := by decide +kernel
theorem dX7_test_44 : decode cX7_test 44 = .ok (.aload_n 0, 1) := by decide +kernel
theorem dX7_test_45 : decode cX7_test 45 = .ok (.iload_n 1, 1) := by decide +kernel
theorem dX7_test_46 : decode cX7_test 46 = .ok (.invokevirtual 140, 3) := by decide +kernel
theorem dX7_test_49 : decode cX7_test 49 = .ok (.ifCond .ne 5, 3) := by decide +kernel
theorem dX7_test_52 : decode cX7_test 52 = .ok (.iconst 0, 1) := by decide +kernel
theorem dX7_test_53 : decode cX7_test 53 = .ok (.ireturn, 1) := by decide +kernel
theorem dX7_test_54 : decode cX7_test 54 = .ok (.aload_n 0, 1) := by decide +kernel
theorem dX7_test_55 : decode cX7_test 55 = .ok (.getfield 26, 3) := by decide +kernel
theorem dX7_test_58 : decode cX7_test 58 = .ok (.iload_n 3, 1) := by decide +kernel
theorem dX7_test_59 : decode cX7_test 59 = .ok (.invokevirtual 143, 3) := by decide +kernel
theorem dX7_test_62 : decode cX7_test 62 = .ok (.iinc 2 1, 3) := by decide +kernel
theorem dX7_test_65 : decode cX7_test 65 = .ok (.goto (-53), 3) := by decide +kernel
theorem dX7_test_68 : decode cX7_test 68 = .ok (.iconst 1, 1) := by decide +kernel
theorem dX7_test_69 : decode cX7_test 69 = .ok (.ireturn, 1) := by decide +kernel
theorem dX7_both_0 : decode cX7_both 0 = .ok (.aload_n 0, 1) := by decide +kernel
theorem dX7_both_1 : decode cX7_both 1 = .ok (.iload_n 1, 1) := by decide +kernel
theorem dX7_both_2 : decode cX7_both 2 = .ok (.invokevirtual 146, 3) := by decide +kernel
theorem dX7_both_5 : decode cX7_both 5 = .ok (.ifCond .ne 5, 3) := by decide +kernel
theorem dX7_both_8 : decode cX7_both 8 = .ok (.iconst 0, 1) := by decide +kernel
theorem dX7_both_9 : decode cX7_both 9 = .ok (.ireturn, 1) := by decide +kernel
theorem dX7_both_10 : decode cX7_both 10 = .ok (.iconst 0, 1) := by decide +kernel
theorem dX7_both_11 : decode cX7_both 11 = .ok (.istore_n 2, 1) := by decide +kernel
theorem dX7_both_12 : decode cX7_both 12 = .ok (.iload_n 2, 1) := by decide +kernel
theorem dX7_both_13 : decode cX7_both 13 = .ok (.sipush 400, 3) := by decide +kernel
theorem dX7_both_16 : decode cX7_both 16 = .ok (.if_icmp .ge 52, 3) := by decide +kernel
theorem dX7_both_19 : decode cX7_both 19 = .ok (.aload_n 0, 1) := by decide +kernel
theorem dX7_both_20 : decode cX7_both 20 = .ok (.getfield 66, 3) := by decide +kernel
theorem dX7_both_23 : decode cX7_both 23 = .ok (.sipush 264, 3) := by decide +kernel
theorem dX7_both_26 : decode cX7_both 26 = .ok (.if_icmp .ne 42, 3) := by decide +kernel
theorem dX7_both_29 : decode cX7_both 29 = .ok (.aload_n 0, 1) := by decide +kernel
theorem dX7_both_30 : decode cX7_both 30 = .ok (.getfield 26, 3) := by decide +kernel
theorem dX7_both_33 : decode cX7_both 33 = .ok (.bipush 13, 2) := by decide +kernel
theorem dX7_both_35 : decode cX7_both 35 = .ok (.iconst 0, 1) := by decide +kernel
theorem dX7_both_36 : decode cX7_both 36 = .ok (.invokevirtual 134, 3) := by decide +kernel
theorem dX7_both_39 : decode cX7_both 39 = .ok (.istore_n 3, 1) := by decide +kernel
theorem dX7_both_40 : decode cX7_both 40 = .ok (.aload_n 0, 1) := by decide +kernel
theorem dX7_both_41 : decode cX7_both 41 = .ok (.invokevirtual 79, 3) := by decide +kernel
theorem dX7_both_44 : decode cX7_both 44 = .ok (.aload_n 0, 1) := by decide +kernel
theorem dX7_both_45 : decode cX7_both 45 = .ok (.iload_n 1, 1) := by decide +kernel
theorem dX7_both_46 : decode cX7_both 46 = .ok (.invokevirtual 146, 3) := by decide +kernel
theorem dX7_both_49 : decode cX7_both 49 = .ok (.ifCond .ne 5, 3) := by decide +kernel
theorem dX7_both_52 : decode cX7_both 52 = .ok (.iconst 0, 1) := by decide +kernel
theorem dX7_both_53 : decode cX7_both 53 = .ok (.ireturn, 1) := by decide +kernel
theorem dX7_both_54 : decode cX7_both 54 = .ok (.aload_n 0, 1) := by decide +kernel
theorem dX7_both_55 : decode cX7_both 55 = .ok (.getfield 26, 3) := by decide +kernel
theorem dX7_both_58 : decode cX7_both 58 = .ok (.iload_n 3, 1) := by decide +kernel
theorem dX7_both_59 : decode cX7_both 59 = .ok (.invokevirtual 143, 3) := by decide +kernel
theorem dX7_both_62 : decode cX7_both 62 = .ok (.iinc 2 1, 3) := by decide +kernel
theorem dX7_both_65 : decode cX7_both 65 = .ok (.goto (-53), 3) := by decide +kernel
theorem dX7_both_68 : decode cX7_both 68 = .ok (.iconst 1, 1) := by decide +kernel
theorem dX7_both_69 : decode cX7_both 69 = .ok (.ireturn, 1) := by decide +kernel
theorem dX7_plain_0 : decode cX7_plain 0 = .ok (.iconst 0, 1) := by decide +kernel
theorem dX7_plain_1 : decode cX7_plain 1 = .ok (.istore_n 2, 1) := by decide +kernel
theorem dX7_plain_2 : decode cX7_plain 2 = .ok (.iconst 0, 1) := by decide +kernel
theorem dX7_plain_3 : decode cX7_plain 3 = .ok (.istore_n 3, 1) := by decide +kernel
theorem dX7_plain_4 : decode cX7_plain 4 = .ok (.iload_n 3, 1) := by decide +kernel
theorem dX7_plain_5 : decode cX7_plain 5 = .ok (.sipush 400, 3) := by decide +kernel
theorem dX7_plain_8 : decode cX7_plain 8 = .ok (.if_icmp .ge 33, 3) := by decide +kernel
theorem dX7_plain_11 : decode cX7_plain 11 = .ok (.aload_n 0, 1) := by decide +kernel
theorem dX7_plain_12 : decode cX7_plain 12 = .ok (.getfield 66, 3) := by decide +kernel
theorem dX7_plain_15 : decode cX7_plain 15 = .ok (.sipush 265, 3) := by decide +kernel
theorem dX7_plain_18 : decode cX7_plain 18 = .ok (.if_icmp .ne 23, 3) := by decide +kernel
theorem dX7_plain_21 : decode cX7_plain 21 = .ok (.iload_n 2, 1) := by decide +kernel
theorem dX7_plain_22 : decode cX7_plain 22 = .ok (.ifCond .ne 7, 3) := by decide +kernel
theorem dX7_plain_25 : decode cX7_plain 25 = .ok (.iconst 1, 1) := by decide +kernel
theorem dX7_plain_26 : decode cX7_plain 26 = .ok (.goto 4, 3) := by decide +kernel
theorem dX7_plain_29 : decode cX7_plain 29 = .ok (.iconst 0, 1) := by decide +kernel
theorem dX7_plain_30 : decode cX7_plain 30 = .ok (.istore_n 2, 1) := by decide +kernel
theorem dX7_plain_31 : decode cX7_plain 31 = .ok (.aload_n 0, 1) := by decide +kernel
theorem dX7_plain_32 : decode cX7_plain 32 = .ok (.invokevirtual 79, 3) := by decide +kernel
theorem dX7_plain_35 : decode cX7_plain 35 = .ok (.iinc 3 1, 3) := by decide +kernel
theorem dX7_plain_38 : decode cX7_plain 38 = .ok (.goto (-34), 3) := by decide +kernel
theorem dX7_plain_41 : decode cX7_plain 41 = .ok (.aload_n 0, 1) := by decide +kernel
theorem dX7_plain_42 : decode cX7_plain 42 = .ok (.getfield 66, 3) := by decide +kernel
theorem dX7_plain_45 : decode cX7_plain 45 = .ok (.bipush 40, 2) := by decide +kernel
theorem dX7_plain_47 : decode cX7_plain 47 = .ok (.if_icmp .ne 13, 3) := by decide +kernel
theorem dX7_plain_50 : decode cX7_plain 50 = .ok (.aload_n 0, 1) := by decide +kernel
theorem dX7_plain_51 : decode cX7_plain 51 = .ok (.iload_n 1, 1) := by decide +kernel
theorem dX7_plain_52 : decode cX7_plain 52 = .ok (.invokevirtual 149, 3) := by decide +kernel
theorem dX7_plain_55 : decode cX7_plain 55 = .ok (.ifCond .ne 58, 3) := by decide +kernel
theorem dX7_plain_58 : decode cX7_plain 58 = .ok (.iconst 0, 1) := by decide +kernel
theorem dX7_plain_59 : decode cX7_plain 59 = .ok (.ireturn, 1) := by decide +kernel
theorem dX7_plain_60 : decode cX7_plain 60 = .ok (.aload_n 0, 1) := by decide +kernel
theorem dX7_plain_61 : decode cX7_plain 61 = .ok (.iload_n 1, 1) := by decide +kernel
theorem dX7_plain_62 : decode cX7_plain 62 = .ok (.invokevirtual 137, 3) := by decide +kernel
theorem dX7_plain_65 : decode cX7_plain 65 = .ok (.ifCond .ne 5, 3) := by decide +kernel
theorem dX7_plain_68 : decode cX7_plain 68 = .ok (.iconst 0, 1) := by decide +kernel
theorem dX7_plain_69 : decode cX7_plain 69 = .ok (.ireturn, 1) := by decide +kernel
theorem dX7_plain_70 : decode cX7_plain 70 = .ok (.aload_n 0, 1) := by decide +kernel
theorem dX7_plain_71 : decode cX7_plain 71 = .ok (.bipush 8, 2) := by decide +kernel
theorem dX7_plain_73 : decode cX7_plain 73 = .ok (.bipush 10, 2) := by decide +kernel
theorem dX7_plain_75 : decode cX7_plain 75 = .ok (.invokevirtual 152, 3) := by decide +kernel
theorem dX7_plain_78 : decode cX7_plain 78 = .ok (.istore_n 3, 1) := by decide +kernel
theorem dX7_plain_79 : decode cX7_plain 79 = .ok (.iload_n 3, 1) := by decide +kernel
theorem dX7_plain_80 : decode cX7_plain 80 = .ok (.iconst (-1), 1) := by decide +kernel
theorem dX7_plain_81 : decode cX7_plain 81 = .ok (.if_icmp .ne 8, 3) := by decide +kernel
theorem dX7_plain_84 : decode cX7_plain 84 = .ok (.aload_n 0, 1) := by decide +kernel
theorem dX7_plain_85 : decode cX7_plain 85 = .ok (.invokevirtual 76, 3) := by decide +kernel
theorem dX7_plain_88 : decode cX7_plain 88 = .ok (.ireturn, 1) := by decide +kernel
theorem dX7_plain_89 : decode cX7_plain 89 = .ok (.aload_n 0, 1) := by decide +kernel
theorem dX7_plain_90 : decode cX7_plain 90 = .ok (.invokevirtual 79, 3) := by decide +kernel
theorem dX7_plain_93 : decode cX7_plain 93 = .ok (.aload_n 0, 1) := by decide +kernel
theorem dX7_plain_94 : decode cX7_plain 94 = .ok (.iload_n 1, 1) := by decide +kernel
theorem dX7_plain_95 : decode cX7_plain 95 = .ok (.invokevirtual 137, 3) := by decide +kernel
theorem dX7_plain_98 : decode cX7_plain 98 = .ok (.ifCond .ne 5, 3) := by decide +kernel
theorem dX7_plain_101 : decode cX7_plain 101 = .ok (.iconst 0, 1) := by decide +kernel
theorem dX7_plain_102 : decode cX7_plain 102 = .ok (.ireturn, 1) := by decide +kernel
theorem dX7_plain_103 : decode cX7_plain 103 = .ok (.aload_n 0, 1) := by decide +kernel
theorem dX7_plain_104 : decode cX7_plain 104 = .ok (.getfield 26, 3) := by decide +kernel
theorem dX7_plain_107 : decode cX7_plain 107 = .ok (.iload_n 3, 1) := by decide +kernel
theorem dX7_plain_108 : decode cX7_plain 108 = .ok (.iconst 0, 1) := by decide +kernel
theorem dX7_plain_109 : decode cX7_plain 109 = .ok (.invokevirtual 134, 3) := by decide +kernel
theorem dX7_plain_112 : decode cX7_plain 112 = .ok (.pop, 1) := by decide +kernel
theorem dX7_plain_113 : decode cX7_plain 113 = .ok (.iload_n 2, 1) := by decide +kernel
theorem dX7_plain_114 : decode cX7_plain 114 = .ok (.ifCond .eq 14, 3) := by decide +kernel
theorem dX7_plain_117 : decode cX7_plain 117 = .ok (.aload_n 0, 1) := by decide +kernel
theorem dX7_plain_118 : decode cX7_plain 118 = .ok (.getfield 26, 3) := by decide +kernel
theorem dX7_plain_121 : decode cX7_plain 121 = .ok (.bipush 11, 2) := by decide +kernel
theorem dX7_plain_123 : decode cX7_plain 123 = .ok (.iconst 0, 1) := by decide +kernel
theorem dX7_plain_124 : decode cX7_plain 124 = .ok (.invokevirtual 134, 3) := by decide +kernel
theorem dX7_plain_127 : decode cX7_plain 127 = .ok (.pop, 1) := by decide +kernel
theorem dX7_plain_128 : decode cX7_plain 128 = .ok (.iconst 1, 1) := by decide +kernel
theorem dX7_plain_129 : decode cX7_plain 129 = .ok (.ireturn, 1) := by decide +kernel
theorem dX7_inRound_0 : decode cX7_inRound 0 = .ok (.iload_n 1, 1) := by decide +kernel
theorem dX7_inRound_1 : decode cX7_inRound 1 = .ok (.bipush 8, 2) := by decide +kernel
theorem dX7_inRound_3 : decode cX7_inRound 3 = .ok (.if_icmp .lt 8, 3) := by decide +kernel
theorem dX7_inRound_6 : decode cX7_inRound 6 = .ok (.aload_n 0, 1) := by decide +kernel
theorem dX7_inRound_7 : decode cX7_inRound 7 = .ok (.invokevirtual 76, 3) := by decide +kernel
theorem dX7_inRound_10 : decode cX7_inRound 10 = .ok (.ireturn, 1) := by decide +kernel
theorem dX7_inRound_11 : decode cX7_inRound 11 = .ok (.aload_n 0, 1) := by decide +kernel
theorem dX7_inRound_12 : decode cX7_inRound 12 = .ok (.invokevirtual 79, 3) := by decide +kernel
theorem dX7_inRound_15 : decode cX7_inRound 15 = .ok (.aload_n 0, 1) := by decide +kernel
theorem dX7_inRound_16 : decode cX7_inRound 16 = .ok (.iload_n 1, 1) := by decide +kernel
theorem dX7_inRound_17 : decode cX7_inRound 17 = .ok (.iconst 1, 1) := by decide +kernel
theorem dX7_inRound_18 : decode cX7_inRound 18 = .ok (.iadd, 1) := by decide +kernel
theorem dX7_inRound_19 : decode cX7_inRound 19 = .ok (.invokevirtual 129, 3) := by decide +kernel
theorem dX7_inRound_22 : decode cX7_inRound 22 = .ok (.ifCond .ne 5, 3) := by decide +kernel
theorem dX7_inRound_25 : decode cX7_inRound 25 = .ok (.iconst 0, 1) := by decide +kernel
theorem dX7_inRound_26 : decode cX7_inRound 26 = .ok (.ireturn, 1) := by decide +kernel
theorem dX7_inRound_27 : decode cX7_inRound 27 = .ok (.aload_n 0, 1) := by decide +kernel
theorem dX7_inRound_28 : decode cX7_inRound 28 = .ok (.getfield 66, 3) := by decide +kernel
theorem dX7_inRound_31 : decode cX7_inRound 31 = .ok (.bipush 41, 2) := by decide +kernel
theorem dX7_inRound_33 : decode cX7_inRound 33 = .ok (.if_icmp .eq 8, 3) := by decide +kernel
theorem dX7_inRound_36 : decode cX7_inRound 36 = .ok (.aload_n 0, 1) := by decide +kernel
theorem dX7_inRound_37 : decode cX7_inRound 37 = .ok (.invokevirtual 76, 3) := by decide +kernel
theorem dX7_inRound_40 : decode cX7_inRound 40 = .ok (.ireturn, 1) := by decide +kernel
theorem dX7_inRound_41 : decode cX7_inRound 41 = .ok (.aload_n 0, 1) := by decide +kernel
theorem dX7_inRound_42 : decode cX7_inRound 42 = .ok (.invokevirtual 79, 3) := by decide +kernel
theorem dX7_inRound_45 : decode cX7_inRound 45 = .ok (.iconst 1, 1) := by decide +kernel
theorem dX7_inRound_46 : decode cX7_inRound 46 = .ok (.ireturn, 1) := by decide +kernel
theorem dX7_sum_0 : decode cX7_sum 0 = .ok (.aload_n 0, 1) := by decide +kernel
theorem dX7_sum_1 : decode cX7_sum 1 = .ok (.iload_n 1, 1) := by decide +kernel
theorem dX7_sum_2 : decode cX7_sum 2 = .ok (.invokevirtual 155, 3) := by decide +kernel
theorem dX7_sum_5 : decode cX7_sum 5 = .ok (.ifCond .ne 5, 3) := by decide +kernel
theorem dX7_sum_8 : decode cX7_sum 8 = .ok (.iconst 0, 1) := by decide +kernel
theorem dX7_sum_9 : decode cX7_sum 9 = .ok (.ireturn, 1) := by decide +kernel
theorem dX7_sum_10 : decode cX7_sum 10 = .ok (.aload_n 0, 1) := by decide +kernel
theorem dX7_sum_11 : decode cX7_sum 11 = .ok (.iconst 3, 1) := by decide +kernel
theorem dX7_sum_12 : decode cX7_sum 12 = .ok (.iconst 4, 1) := by decide +kernel
theorem dX7_sum_13 : decode cX7_sum 13 = .ok (.invokevirtual 152, 3) := by decide +kernel
theorem dX7_sum_16 : decode cX7_sum 16 = .ok (.istore_n 2, 1) := by decide +kernel
theorem dX7_sum_17 : decode cX7_sum 17 = .ok (.iconst 0, 1) := by decide +kernel
theorem dX7_sum_18 : decode cX7_sum 18 = .ok (.istore_n 3, 1) := by decide +kernel
theorem dX7_sum_19 : decode cX7_sum 19 = .ok (.iload_n 3, 1) := by decide +kernel
theorem dX7_sum_20 : decode cX7_sum 20 = .ok (.sipush 400, 3) := by decide +kernel
theorem dX7_sum_23 : decode cX7_sum 23 = .ok (.if_icmp .ge 45, 3) := by decide +kernel
theorem dX7_sum_26 : decode cX7_sum 26 = .ok (.iload_n 2, 1) := by decide +kernel
theorem dX7_sum_27 : decode cX7_sum 27 = .ok (.iconst (-1), 1) := by decide +kernel
theorem dX7_sum_28 : decode cX7_sum 28 = .ok (.if_icmp .eq 40, 3) := by decide +kernel
theorem dX7_sum_31 : decode cX7_sum 31 = .ok (.aload_n 0, 1) := by decide +kernel
theorem dX7_sum_32 : decode cX7_sum 32 = .ok (.invokevirtual 79, 3) := by decide +kernel
theorem dX7_sum_35 : decode cX7_sum 35 = .ok (.aload_n 0, 1) := by decide +kernel
theorem dX7_sum_36 : decode cX7_sum 36 = .ok (.iload_n 1, 1) := by decide +kernel
theorem dX7_sum_37 : decode cX7_sum 37 = .ok (.invokevirtual 155, 3) := by decide +kernel
theorem dX7_sum_40 : decode cX7_sum 40 = .ok (.ifCond .ne 5, 3) := by decide +kernel
theorem dX7_sum_43 : decode cX7_sum 43 = .ok (.iconst 0, 1) := by decide +kernel
theorem dX7_sum_44 : decode cX7_sum 44 = .ok (.ireturn, 1) := by decide +kernel
theorem dX7_sum_45 : decode cX7_sum 45 = .ok (.aload_n 0, 1) := by decide +kernel
theorem dX7_sum_46 : decode cX7_sum 46 = .ok (.getfield 26, 3) := by decide +kernel
theorem dX7_sum_49 : decode cX7_sum 49 = .ok (.iload_n 2, 1) := by decide +kernel
theorem dX7_sum_50 : decode cX7_sum 50 = .ok (.iconst 0, 1) := by decide +kernel
theorem dX7_sum_51 : decode cX7_sum 51 = .ok (.invokevirtual 134, 3) := by decide +kernel
theorem dX7_sum_54 : decode cX7_sum 54 = .ok (.pop, 1) := by decide +kernel
theorem dX7_sum_55 : decode cX7_sum 55 = .ok (.aload_n 0, 1) := by decide +kernel
theorem dX7_sum_56 : decode cX7_sum 56 = .ok (.iconst 3, 1) := by decide +kernel
theorem dX7_sum_57 : decode cX7_sum 57 = .ok (.iconst 4, 1) := by decide +kernel
theorem dX7_sum_58 : decode cX7_sum 58 = .ok (.invokevirtual 152, 3) := by decide +kernel
theorem dX7_sum_61 : decode cX7_sum 61 = .ok (.istore_n 2, 1) := by decide +kernel
theorem dX7_sum_62 : decode cX7_sum 62 = .ok (.iinc 3 1, 3) := by decide +kernel
theorem dX7_sum_65 : decode cX7_sum 65 = .ok (.goto (-46), 3) := by decide +kernel
theorem dX7_sum_68 : decode cX7_sum 68 = .ok (.iconst 1, 1) := by decide +kernel
theorem dX7_sum_69 : decode cX7_sum 69 = .ok (.ireturn, 1) := by decide +kernel
theorem dX7_term_0 : decode cX7_term 0 = .ok (.aload_n 0, 1) := by decide +kernel
theorem dX7_term_1 : decode cX7_term 1 = .ok (.iload_n 1, 1) := by decide +kernel
theorem dX7_term_2 : decode cX7_term 2 = .ok (.invokevirtual 158, 3) := by decide +kernel
theorem dX7_term_5 : decode cX7_term 5 = .ok (.ifCond .ne 5, 3) := by decide +kernel
theorem dX7_term_8 : decode cX7_term 8 = .ok (.iconst 0, 1) := by decide +kernel
theorem dX7_term_9 : decode cX7_term 9 = .ok (.ireturn, 1) := by decide +kernel
theorem dX7_term_10 : decode cX7_term 10 = .ok (.aload_n 0, 1) := by decide +kernel
theorem dX7_term_11 : decode cX7_term 11 = .ok (.iconst 5, 1) := by decide +kernel
theorem dX7_term_12 : decode cX7_term 12 = .ok (.bipush 7, 2) := by decide +kernel
theorem dX7_term_14 : decode cX7_term 14 = .ok (.invokevirtual 152, 3) := by decide +kernel
theorem dX7_term_17 : decode cX7_term 17 = .ok (.istore_n 2, 1) := by decide +kernel
theorem dX7_term_18 : decode cX7_term 18 = .ok (.iconst 0, 1) := by decide +kernel
theorem dX7_term_19 : decode cX7_term 19 = .ok (.istore_n 3, 1) := by decide +kernel
theorem dX7_term_20 : decode cX7_term 20 = .ok (.iload_n 3, 1) := by decide +kernel
theorem dX7_term_21 : decode cX7_term 21 = .ok (.sipush 400, 3) := by decide +kernel
theorem dX7_term_24 : decode cX7_term 24 = .ok (.if_icmp .ge 46, 3) := by decide +kernel
theorem dX7_term_27 : decode cX7_term 27 = .ok (.iload_n 2, 1) := by decide +kernel
theorem dX7_term_28 : decode cX7_term 28 = .ok (.iconst (-1), 1) := by decide +kernel
theorem dX7_term_29 : decode cX7_term 29 = .ok (.if_icmp .eq 41, 3) := by decide +kernel
theorem dX7_term_32 : decode cX7_term 32 = .ok (.aload_n 0, 1) := by decide +kernel
theorem dX7_term_33 : decode cX7_term 33 = .ok (.invokevirtual 79, 3) := by decide +kernel
theorem dX7_term_36 : decode cX7_term 36 = .ok (.aload_n 0, 1) := by decide +kernel
theorem dX7_term_37 : decode cX7_term 37 = .ok (.iload_n 1, 1) := by decide +kernel
theorem dX7_term_38 : decode cX7_term 38 = .ok (.invokevirtual 158, 3) := by decide +kernel
theorem dX7_term_41 : decode cX7_term 41 = .ok (.ifCond .ne 5, 3) := by decide +kernel
theorem dX7_term_44 : decode cX7_term 44 = .ok (.iconst 0, 1) := by decide +kernel
theorem dX7_term_45 : decode cX7_term 45 = .ok (.ireturn, 1) := by decide +kernel
theorem dX7_term_46 : decode cX7_term 46 = .ok (.aload_n 0, 1) := by decide +kernel
theorem dX7_term_47 : decode cX7_term 47 = .ok (.getfield 26, 3) := by decide +kernel
theorem dX7_term_50 : decode cX7_term 50 = .ok (.iload_n 2, 1) := by decide +kernel
theorem dX7_term_51 : decode cX7_term 51 = .ok (.iconst 0, 1) := by decide +kernel
theorem dX7_term_52 : decode cX7_term 52 = .ok (.invokevirtual 134, 3) := by decide +kernel
theorem dX7_term_55 : decode cX7_term 55 = .ok (.pop, 1) := by decide +kernel
theorem dX7_term_56 : decode cX7_term 56 = .ok (.aload_n 0, 1) := by decide +kernel
theorem dX7_term_57 : decode cX7_term 57 = .ok (.iconst 5, 1) := by decide +kernel
theorem dX7_term_58 : decode cX7_term 58 = .ok (.bipush 7, 2) := by decide +kernel
theorem dX7_term_60 : decode cX7_term 60 = .ok (.invokevirtual 152, 3) := by decide +kernel
theorem dX7_term_63 : decode cX7_term 63 = .ok (.istore_n 2, 1) := by decide +kernel
theorem dX7_term_64 : decode cX7_term 64 = .ok (.iinc 3 1, 3) := by decide +kernel
theorem dX7_term_67 : decode cX7_term 67 = .ok (.goto (-47), 3) := by decide +kernel
theorem dX7_term_70 : decode cX7_term 70 = .ok (.iconst 1, 1) := by decide +kernel
theorem dX7_term_71 : decode cX7_term 71 = .ok (.ireturn, 1) := by decide +kernel
theorem dX7_opOf_0 : decode cX7_opOf 0 = .ok (.aload_n 0, 1) := by decide +kernel
theorem dX7_opOf_1 : decode cX7_opOf 1 = .ok (.getfield 66, 3) := by decide +kernel
theorem dX7_opOf_4 : decode cX7_opOf 4 = .ok (.tableswitch 165 37 62 #[141, 165, 165, 165, 165, 130, 120, 165, 125, 165, 135, 165, 165, 165, 165, 165, 165, 165, 165, 165, 165, 165, 165, 147, 159, 153], 120) := by decide +kernel
theorem dX7_opOf_124 : decode cX7_opOf 124 = .ok (.iconst 3, 1) := by decide +kernel
theorem dX7_opOf_125 : decode cX7_opOf 125 = .ok (.istore_n 3, 1) := by decide +kernel
theorem dX7_opOf_126 : decode cX7_opOf 126 = .ok (.goto 45, 3) := by decide +kernel
theorem dX7_opOf_129 : decode cX7_opOf 129 = .ok (.iconst 4, 1) := by decide +kernel
theorem dX7_opOf_130 : decode cX7_opOf 130 = .ok (.istore_n 3, 1) := by decide +kernel
theorem dX7_opOf_131 : decode cX7_opOf 131 = .ok (.goto 40, 3) := by decide +kernel
theorem dX7_opOf_134 : decode cX7_opOf 134 = .ok (.iconst 5, 1) := by decide +kernel
theorem dX7_opOf_135 : decode cX7_opOf 135 = .ok (.istore_n 3, 1) := by decide +kernel
theorem dX7_opOf_136 : decode cX7_opOf 136 = .ok (.goto 35, 3) := by decide +kernel
theorem dX7_opOf_139 : decode cX7_opOf 139 = .ok (.bipush 6, 2) := by decide +kernel
theorem dX7_opOf_141 : decode cX7_opOf 141 = .ok (.istore_n 3, 1) := by decide +kernel
theorem dX7_opOf_142 : decode cX7_opOf 142 = .ok (.goto 29, 3) := by decide +kernel
theorem dX7_opOf_145 : decode cX7_opOf 145 = .ok (.bipush 7, 2) := by decide +kernel
theorem dX7_opOf_147 : decode cX7_opOf 147 = .ok (.istore_n 3, 1) := by decide +kernel
theorem dX7_opOf_148 : decode cX7_opOf 148 = .ok (.goto 23, 3) := by decide +kernel
theorem dX7_opOf_151 : decode cX7_opOf 151 = .ok (.bipush 8, 2) := by decide +kernel
theorem dX7_opOf_153 : decode cX7_opOf 153 = .ok (.istore_n 3, 1) := by decide +kernel
theorem dX7_opOf_154 : decode cX7_opOf 154 = .ok (.goto 17, 3) := by decide +kernel
theorem dX7_opOf_157 : decode cX7_opOf 157 = .ok (.bipush 9, 2) := by decide +kernel
theorem dX7_opOf_159 : decode cX7_opOf 159 = .ok (.istore_n 3, 1) := by decide +kernel
theorem dX7_opOf_160 : decode cX7_opOf 160 = .ok (.goto 11, 3) := by decide +kernel
theorem dX7_opOf_163 : decode cX7_opOf 163 = .ok (.bipush 10, 2) := by decide +kernel
theorem dX7_opOf_165 : decode cX7_opOf 165 = .ok (.istore_n 3, 1) := by decide +kernel
theorem dX7_opOf_166 : decode cX7_opOf 166 = .ok (.goto 5, 3) := by decide +kernel
theorem dX7_opOf_169 : decode cX7_opOf 169 = .ok (.iconst (-1), 1) := by decide +kernel
theorem dX7_opOf_170 : decode cX7_opOf 170 = .ok (.istore_n 3, 1) := by decide +kernel
theorem dX7_opOf_171 : decode cX7_opOf 171 = .ok (.iload_n 3, 1) := by decide +kernel
theorem dX7_opOf_172 : decode cX7_opOf 172 = .ok (.iload_n 1, 1) := by decide +kernel
theorem dX7_opOf_173 : decode cX7_opOf 173 = .ok (.if_icmp .lt 12, 3) := by decide +kernel
