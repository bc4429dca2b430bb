theorem dX5_haste_52 : decode cX5_haste 52 = .ok (.iload_n 1, 1) := by decide +kernel
theorem dX5_haste_53 : decode cX5_haste 53 = .ok (.iconst 2, 1) := by decide +kernel
theorem dX5_haste_54 : decode cX5_haste 54 = .ok (.invokestatic 59, 3) := by decide +kernel
theorem dX5_haste_57 : decode cX5_haste 57 = .ok (.iload 4, 2) := by decide +kernel
theorem dX5_haste_59 : decode cX5_haste 59 = .ok (.iastore, 1) := by decide +kernel
theorem dX5_haste_60 : decode cX5_haste 60 = .ok (.aload_n 0, 1) := by decide +kernel
theorem dX5_haste_61 : decode cX5_haste 61 = .ok (.aload_n 0, 1) := by decide +kernel
theorem dX5_haste_62 : decode cX5_haste 62 = .ok (.iload_n 1, 1) := by decide +kernel
theorem dX5_haste_63 : decode cX5_haste 63 = .ok (.iload_n 3, 1) := by decide +kernel
theorem dX5_haste_64 : decode cX5_haste 64 = .ok (.invokevirtual 195, 3) := by decide +kernel
theorem dX5_haste_67 : decode cX5_haste 67 = .ok (.invokevirtual 175, 3) := by decide +kernel
theorem dX5_haste_70 : decode cX5_haste 70 = .ok (.iload_n 2, 1) := by decide +kernel
theorem dX5_haste_71 : decode cX5_haste 71 = .ok (.if_icmp .lt 6, 3) := by decide +kernel
theorem dX5_haste_74 : decode cX5_haste 74 = .ok (.iload 4, 2) := by decide +kernel
theorem dX5_haste_76 : decode cX5_haste 76 = .ok (.ireturn, 1) := by decide +kernel
theorem dX5_haste_77 : decode cX5_haste 77 = .ok (.iinc 4 1, 3) := by decide +kernel
theorem dX5_haste_80 : decode cX5_haste 80 = .ok (.goto (-39), 3) := by decide +kernel
theorem dX5_haste_83 : decode cX5_haste 83 = .ok (.aload_n 0, 1) := by decide +kernel
theorem dX5_haste_84 : decode cX5_haste 84 = .ok (.ldc 178, 2) := by decide +kernel
theorem dX5_haste_86 : decode cX5_haste 86 = .ok (.invokevirtual 74, 3) := by decide +kernel
theorem dX5_haste_89 : decode cX5_haste 89 = .ok (.ireturn, 1) := by decide +kernel
theorem dX5_allOn_0 : decode cX5_allOn 0 = .ok (.aload_n 0, 1) := by decide +kernel
theorem dX5_allOn_1 : decode cX5_allOn 1 = .ok (.iload_n 1, 1) := by decide +kernel
theorem dX5_allOn_2 : decode cX5_allOn 2 = .ok (.invokevirtual 157, 3) := by decide +kernel
theorem dX5_allOn_5 : decode cX5_allOn 5 = .ok (.aload_n 0, 1) := by decide +kernel
theorem dX5_allOn_6 : decode cX5_allOn 6 = .ok (.iconst 3, 1) := by decide +kernel
theorem dX5_allOn_7 : decode cX5_allOn 7 = .ok (.invokevirtual 160, 3) := by decide +kernel
theorem dX5_allOn_10 : decode cX5_allOn 10 = .ok (.ireturn, 1) := by decide +kernel
theorem dX5_best_0 : decode cX5_best 0 = .ok (.iload_n 1, 1) := by decide +kernel
theorem dX5_best_1 : decode cX5_best 1 = .ok (.i2l, 1) := by decide +kernel
theorem dX5_best_2 : decode cX5_best 2 = .ok (.lconst 0, 1) := by decide +kernel
theorem dX5_best_3 : decode cX5_best 3 = .ok (.ldc2_w 82, 3) := by decide +kernel
theorem dX5_best_6 : decode cX5_best 6 = .ok (.invokestatic 53, 3) := by decide +kernel
theorem dX5_best_9 : decode cX5_best 9 = .ok (.ifCond .eq 10, 3) := by decide +kernel
theorem dX5_best_12 : decode cX5_best 12 = .ok (.iload_n 2, 1) := by decide +kernel
theorem dX5_best_13 : decode cX5_best 13 = .ok (.invokestatic 192, 3) := by decide +kernel
theorem dX5_best_16 : decode cX5_best 16 = .ok (.ifCond .ne 10, 3) := by decide +kernel
theorem dX5_best_19 : decode cX5_best 19 = .ok (.aload_n 0, 1) := by decide +kernel
theorem dX5_best_20 : decode cX5_best 20 = .ok (.ldc 50, 2) := by decide +kernel
theorem dX5_best_22 : decode cX5_best 22 = .ok (.invokevirtual 74, 3) := by decide +kernel
theorem dX5_best_25 : decode cX5_best 25 = .ok (.ireturn, 1) := by decide +kernel
theorem dX5_best_26 : decode cX5_best 26 = .ok (.aload_n 0, 1) := by decide +kernel
theorem dX5_best_27 : decode cX5_best 27 = .ok (.invokevirtual 172, 3) := by decide +kernel
theorem dX5_best_30 : decode cX5_best 30 = .ok (.iconst 0, 1) := by decide +kernel
theorem dX5_best_31 : decode cX5_best 31 = .ok (.istore_n 3, 1) := by decide +kernel
theorem dX5_best_32 : decode cX5_best 32 = .ok (.iconst (-1), 1) := by decide +kernel
theorem dX5_best_33 : decode cX5_best 33 = .ok (.istore 4, 2) := by decide +kernel
theorem dX5_best_35 : decode cX5_best 35 = .ok (.bipush (-9), 2) := by decide +kernel
theorem dX5_best_37 : decode cX5_best 37 = .ok (.istore 5, 2) := by decide +kernel
theorem dX5_best_39 : decode cX5_best 39 = .ok (.iload 5, 2) := by decide +kernel
theorem dX5_best_41 : decode cX5_best 41 = .ok (.bipush 9, 2) := by decide +kernel
theorem dX5_best_43 : decode cX5_best 43 = .ok (.if_icmp .gt 60, 3) := by decide +kernel
theorem dX5_best_46 : decode cX5_best 46 = .ok (.aload_n 0, 1) := by decide +kernel
theorem dX5_best_47 : decode cX5_best 47 = .ok (.getfield 7, 3) := by decide +kernel
theorem dX5_best_50 : decode cX5_best 50 = .ok (.iconst 3, 1) := by decide +kernel
theorem dX5_best_51 : decode cX5_best 51 = .ok (.iload_n 1, 1) := by decide +kernel
theorem dX5_best_52 : decode cX5_best 52 = .ok (.iadd, 1) := by decide +kernel
theorem dX5_best_53 : decode cX5_best 53 = .ok (.iload 5, 2) := by decide +kernel
theorem dX5_best_55 : decode cX5_best 55 = .ok (.iastore, 1) := by decide +kernel
theorem dX5_best_56 : decode cX5_best 56 = .ok (.aload_n 0, 1) := by decide +kernel
theorem dX5_best_57 : decode cX5_best 57 = .ok (.aload_n 0, 1) := by decide +kernel
theorem dX5_best_58 : decode cX5_best 58 = .ok (.iload_n 2, 1) := by decide +kernel
theorem dX5_best_59 : decode cX5_best 59 = .ok (.invokevirtual 198, 3) := by decide +kernel
theorem dX5_best_62 : decode cX5_best 62 = .ok (.invokevirtual 175, 3) := by decide +kernel
theorem dX5_best_65 : decode cX5_best 65 = .ok (.istore 6, 2) := by decide +kernel
theorem dX5_best_67 : decode cX5_best 67 = .ok (.iload 6, 2) := by decide +kernel
theorem dX5_best_69 : decode cX5_best 69 = .ok (.iload 4, 2) := by decide +kernel
theorem dX5_best_71 : decode cX5_best 71 = .ok (.if_icmp .le 8, 3) := by decide +kernel
theorem dX5_best_74 : decode cX5_best 74 = .ok (.iload 5, 2) := by decide +kernel
theorem dX5_best_76 : decode cX5_best 76 = .ok (.goto 4, 3) := by decide +kernel
theorem dX5_best_79 : decode cX5_best 79 = .ok (.iload_n 3, 1) := by decide +kernel
theorem dX5_best_80 : decode cX5_best 80 = .ok (.istore_n 3, 1) := by decide +kernel
theorem dX5_best_81 : decode cX5_best 81 = .ok (.iload 6, 2) := by decide +kernel
theorem dX5_best_83 : decode cX5_best 83 = .ok (.iload 4, 2) := by decide +kernel
theorem dX5_best_85 : decode cX5_best 85 = .ok (.if_icmp .le 8, 3) := by decide +kernel
theorem dX5_best_88 : decode cX5_best 88 = .ok (.iload 6, 2) := by decide +kernel
theorem dX5_best_90 : decode cX5_best 90 = .ok (.goto 5, 3) := by decide +kernel
theorem dX5_best_93 : decode cX5_best 93 = .ok (.iload 4, 2) := by decide +kernel
theorem dX5_best_95 : decode cX5_best 95 = .ok (.istore 4, 2) := by decide +kernel
theorem dX5_best_97 : decode cX5_best 97 = .ok (.iinc 5 1, 3) := by decide +kernel
theorem dX5_best_100 : decode cX5_best 100 = .ok (.goto (-61), 3) := by decide +kernel
theorem dX5_best_103 : decode cX5_best 103 = .ok (.iload_n 3, 1) := by decide +kernel
theorem dX5_best_104 : decode cX5_best 104 = .ok (.ireturn, 1) := by decide +kernel
theorem dX5_start_0 : decode cX5_start 0 = .ok (.aload_n 0, 1) := by decide +kernel
theorem dX5_start_1 : decode cX5_start 1 = .ok (.iload_n 1, 1) := by decide +kernel
theorem dX5_start_2 : decode cX5_start 2 = .ok (.invokevirtual 127, 3) := by decide +kernel
theorem dX5_start_5 : decode cX5_start 5 = .ok (.ifCond .eq 10, 3) := by decide +kernel
theorem dX5_start_8 : decode cX5_start 8 = .ok (.iload_n 2, 1) := by decide +kernel
theorem dX5_start_9 : decode cX5_start 9 = .ok (.invokestatic 192, 3) := by decide +kernel
theorem dX5_start_12 : decode cX5_start 12 = .ok (.ifCond .ne 10, 3) := by decide +kernel
theorem dX5_start_15 : decode cX5_start 15 = .ok (.aload_n 0, 1) := by decide +kernel
theorem dX5_start_16 : decode cX5_start 16 = .ok (.ldc 50, 2) := by decide +kernel
theorem dX5_start_18 : decode cX5_start 18 = .ok (.invokevirtual 74, 3) := by decide +kernel
theorem dX5_start_21 : decode cX5_start 21 = .ok (.ireturn, 1) := by decide +kernel
theorem dX5_start_22 : decode cX5_start 22 = .ok (.aload_n 0, 1) := by decide +kernel
theorem dX5_start_23 : decode cX5_start 23 = .ok (.invokevirtual 172, 3) := by decide +kernel
theorem dX5_start_26 : decode cX5_start 26 = .ok (.iconst 0, 1) := by decide +kernel
theorem dX5_start_27 : decode cX5_start 27 = .ok (.istore_n 3, 1) := by decide +kernel
theorem dX5_start_28 : decode cX5_start 28 = .ok (.iconst (-1), 1) := by decide +kernel
theorem dX5_start_29 : decode cX5_start 29 = .ok (.istore 4, 2) := by decide +kernel
theorem dX5_start_31 : decode cX5_start 31 = .ok (.iconst 0, 1) := by decide +kernel
theorem dX5_start_32 : decode cX5_start 32 = .ok (.istore 5, 2) := by decide +kernel
theorem dX5_start_34 : decode cX5_start 34 = .ok (.iload 5, 2) := by decide +kernel
theorem dX5_start_36 : decode cX5_start 36 = .ok (.bipush 24, 2) := by decide +kernel
theorem dX5_start_38 : decode cX5_start 38 = .ok (.if_icmp .ge 85, 3) := by decide +kernel
theorem dX5_start_41 : decode cX5_start 41 = .ok (.aload_n 0, 1) := by decide +kernel
theorem dX5_start_42 : decode cX5_start 42 = .ok (.iload 5, 2) := by decide +kernel
theorem dX5_start_44 : decode cX5_start 44 = .ok (.invokevirtual 87, 3) := by decide +kernel
theorem dX5_start_47 : decode cX5_start 47 = .ok (.ifCond .lt 16, 3) := by decide +kernel
theorem dX5_start_50 : decode cX5_start 50 = .ok (.aload_n 0, 1) := by decide +kernel
theorem dX5_start_51 : decode cX5_start 51 = .ok (.iload 5, 2) := by decide +kernel
theorem dX5_start_53 : decode cX5_start 53 = .ok (.invokevirtual 87, 3) := by decide +kernel
theorem dX5_start_56 : decode cX5_start 56 = .ok (.iload_n 1, 1) := by decide +kernel
theorem dX5_start_57 : decode cX5_start 57 = .ok (.if_icmp .eq 6, 3) := by decide +kernel
theorem dX5_start_60 : decode cX5_start 60 = .ok (.goto 57, 3) := by decide +kernel
theorem dX5_start_63 : decode cX5_start 63 = .ok (.aload_n 0, 1) := by decide +kernel
theorem dX5_start_64 : decode cX5_start 64 = .ok (.getfield 7, 3) := by decide +kernel
theorem dX5_start_67 : decode cX5_start 67 = .ok (.iload_n 1, 1) := by decide +kernel
theorem dX5_start_68 : decode cX5_start 68 = .ok (.iconst 1, 1) := by decide +kernel
theorem dX5_start_69 : decode cX5_start 69 = .ok (.invokestatic 59, 3) := by decide +kernel
theorem dX5_start_72 : decode cX5_start 72 = .ok (.iload 5, 2) := by decide +kernel
theorem dX5_start_74 : decode cX5_start 74 = .ok (.iastore, 1) := by decide +kernel
theorem dX5_start_75 : decode cX5_start 75 = .ok (.aload_n 0, 1) := by decide +kernel
theorem dX5_start_76 : decode cX5_start 76 = .ok (.aload_n 0, 1) := by decide +kernel
theorem dX5_start_77 : decode cX5_start 77 = .ok (.iload_n 1, 1) := by decide +kernel
theorem dX5_start_78 : decode cX5_start 78 = .ok (.iload_n 2, 1) := by decide +kernel
theorem dX5_start_79 : decode cX5_start 79 = .ok (.invokevirtual 195, 3) := by decide +kernel
theorem dX5_start_82 : decode cX5_start 82 = .ok (.invokevirtual 175, 3) := by decide +kernel
theorem dX5_start_85 : decode cX5_start 85 = .ok (.istore 6, 2) := by decide +kernel
theorem dX5_start_87 : decode cX5_start 87 = .ok (.iload 6, 2) := by decide +kernel
theorem dX5_start_89 : decode cX5_start 89 = .ok (.iload 4, 2) := by decide +kernel
theorem dX5_start_91 : decode cX5_start 91 = .ok (.if_icmp .le 8, 3) := by decide +kernel
theorem dX5_start_94 : decode cX5_start 94 = .ok (.iload 5, 2) := by decide +kernel
theorem dX5_start_96 : decode cX5_start 96 = .ok (.goto 4, 3) := by decide +kernel
theorem dX5_start_99 : decode cX5_start 99 = .ok (.iload_n 3, 1) := by decide +kernel
theorem dX5_start_100 : decode cX5_start 100 = .ok (.istore_n 3, 1) := by decide +kernel
theorem dX5_start_101 : decode cX5_start 101 = .ok (.iload 6, 2) := by decide +kernel
theorem dX5_start_103 : decode cX5_start 103 = .ok (.iload 4, 2) := by decide +kernel
theorem dX5_start_105 : decode cX5_start 105 = .ok (.if_icmp .le 8, 3) := by decide +kernel
theorem dX5_start_108 : decode cX5_start 108 = .ok (.iload 6, 2) := by decide +kernel
theorem dX5_start_110 : decode cX5_start 110 = .ok (.goto 5, 3) := by decide +kernel
theorem dX5_start_113 : decode cX5_start 113 = .ok (.iload 4, 2) := by decide +kernel
theorem dX5_start_115 : decode cX5_start 115 = .ok (.istore 4, 2) := by decide +kernel
theorem dX5_start_117 : decode cX5_start 117 = .ok (.iinc 5 1, 3) := by decide +kernel
theorem dX5_start_120 : decode cX5_start 120 = .ok (.goto (-86), 3) := by decide +kernel
theorem dX5_start_123 : decode cX5_start 123 = .ok (.iload_n 3, 1) := by decide +kernel
theorem dX5_start_124 : decode cX5_start 124 = .ok (.ireturn, 1) := by decide +kernel
theorem dX5_kind_0 : decode cX5_kind 0 = .ok (.aload_n 0, 1) := by decide +kernel
theorem dX5_kind_1 : decode cX5_kind 1 = .ok (.iload_n 1, 1) := by decide +kernel
theorem dX5_kind_2 : decode cX5_kind 2 = .ok (.invokevirtual 127, 3) := by decide +kernel
theorem dX5_kind_5 : decode cX5_kind 5 = .ok (.ifCond .eq 10, 3) := by decide +kernel
theorem dX5_kind_8 : decode cX5_kind 8 = .ok (.iload_n 2, 1) := by decide +kernel
theorem dX5_kind_9 : decode cX5_kind 9 = .ok (.invokestatic 192, 3) := by decide +kernel
theorem dX5_kind_12 : decode cX5_kind 12 = .ok (.ifCond .ne 10, 3) := by decide +kernel
theorem dX5_kind_15 : decode cX5_kind 15 = .ok (.aload_n 0, 1) := by decide +kernel
theorem dX5_kind_16 : decode cX5_kind 16 = .ok (.ldc 50, 2) := by decide +kernel
theorem dX5_kind_18 : decode cX5_kind 18 = .ok (.invokevirtual 74, 3) := by decide +kernel
theorem dX5_kind_21 : decode cX5_kind 21 = .ok (.ireturn, 1) := by decide +kernel
theorem dX5_kind_22 : decode cX5_kind 22 = .ok (.aload_n 0, 1) := by decide +kernel
theorem dX5_kind_23 : decode cX5_kind 23 = .ok (.invokevirtual 172, 3) := by decide +kernel
theorem dX5_kind_26 : decode cX5_kind 26 = .ok (.iconst 0, 1) := by decide +kernel
theorem dX5_kind_27 : decode cX5_kind 27 = .ok (.istore_n 3, 1) := by decide +kernel
theorem dX5_kind_28 : decode cX5_kind 28 = .ok (.iconst (-1), 1) := by decide +kernel
theorem dX5_kind_29 : decode cX5_kind 29 = .ok (.istore 4, 2) := by decide +kernel
theorem dX5_kind_31 : decode cX5_kind 31 = .ok (.iconst 0, 1) := by decide +kernel
theorem dX5_kind_32 : decode cX5_kind 32 = .ok (.istore 5, 2) := by decide +kernel
theorem dX5_kind_34 : decode cX5_kind 34 = .ok (.iload 5, 2) := by decide +kernel
theorem dX5_kind_36 : decode cX5_kind 36 = .ok (.iconst 5, 1) := by decide +kernel
theorem dX5_kind_37 : decode cX5_kind 37 = .ok (.if_icmp .gt 63, 3) := by decide +kernel
theorem dX5_kind_40 : decode cX5_kind 40 = .ok (.aload_n 0, 1) := by decide +kernel
theorem dX5_kind_41 : decode cX5_kind 41 = .ok (.getfield 7, 3) := by decide +kernel
theorem dX5_kind_44 : decode cX5_kind 44 = .ok (.iload_n 1, 1) := by decide +kernel
theorem dX5_kind_45 : decode cX5_kind 45 = .ok (.iconst 0, 1) := by decide +kernel
theorem dX5_kind_46 : decode cX5_kind 46 = .ok (.invokestatic 59, 3) := by decide +kernel
theorem dX5_kind_49 : decode cX5_kind 49 = .ok (.iload 5, 2) := by decide +kernel
theorem dX5_kind_51 : decode cX5_kind 51 = .ok (.iastore, 1) := by decide +kernel
theorem dX5_kind_52 : decode cX5_kind 52 = .ok (.aload_n 0, 1) := by decide +kernel
theorem dX5_kind_53 : decode cX5_kind 53 = .ok (.aload_n 0, 1) := by decide +kernel
theorem dX5_kind_54 : decode cX5_kind 54 = .ok (.iload_n 1, 1) := by decide +kernel
theorem dX5_kind_55 : decode cX5_kind 55 = .ok (.iload_n 2, 1) := by decide +kernel
theorem dX5_kind_56 : decode cX5_kind 56 = .ok (.invokevirtual 195, 3) := by decide +kernel
theorem dX5_kind_59 : decode cX5_kind 59 = .ok (.invokevirtual 175, 3) := by decide +kernel
theorem dX5_kind_62 : decode cX5_kind 62 = .ok (.istore 6, 2) := by decide +kernel
theorem dX5_kind_64 : decode cX5_kind 64 = .ok (.iload 6, 2) := by decide +kernel
theorem dX5_kind_66 : decode cX5_kind 66 = .ok (.iload 4, 2) := by decide +kernel
theorem dX5_kind_68 : decode cX5_kind 68 = .ok (.if_icmp .le 8, 3) := by decide +kernel
theorem dX5_kind_71 : decode cX5_kind 71 = .ok (.iload 5, 2) := by decide +kernel
theorem dX5_kind_73 : decode cX5_kind 73 = .ok (.goto 4, 3) := by decide +kernel
theorem dX5_kind_76 : decode cX5_kind 76 = .ok (.iload_n 3, 1) := by decide +kernel
theorem dX5_kind_77 : decode cX5_kind 77 = .ok (.istore_n 3, 1) := by decide +kernel
theorem dX5_kind_78 : decode cX5_kind 78 = .ok (.iload 6, 2) := by decide +kernel
theorem dX5_kind_80 : decode cX5_kind 80 = .ok (.iload 4, 2) := by decide +kernel
theorem dX5_kind_82 : decode cX5_kind 82 = .ok (.if_icmp .le 8, 3) := by decide +kernel
theorem dX5_kind_85 : decode cX5_kind 85 = .ok (.iload 6, 2) := by decide +kernel
theorem dX5_kind_87 : decode cX5_kind 87 = .ok (.goto 5, 3) := by decide +kernel
theorem dX5_kind_90 : decode cX5_kind 90 = .ok (.iload 4, 2) := by decide +kernel
theorem dX5_kind_92 : decode cX5_kind 92 = .ok (.istore 4, 2) := by decide +kernel
theorem dX5_kind_94 : decode cX5_kind 94 = .ok (.iinc 5 1, 3) := by decide +kernel
theorem dX5_kind_97 : decode cX5_kind 97 = .ok (.goto (-63), 3) := by decide +kernel
theorem dX5_kind_100 : decode cX5_kind 100 = .ok (.iload_n 3, 1) := by decide +kernel
theorem dX5_kind_101 : decode cX5_kind 101 = .ok (.ireturn, 1) := by decide +kernel
theorem dX5_swap_0 : decode cX5_swap 0 = .ok (.iload_n 1, 1) := by decide +kernel
theorem dX5_swap_1 : decode cX5_swap 1 = .ok (.invokestatic 192, 3) := by decide +kernel
theorem dX5_swap_4 : decode cX5_swap 4 = .ok (.ifCond .ne 10, 3) := by decide +kernel
theorem dX5_swap_7 : decode cX5_swap 7 = .ok (.aload_n 0, 1) := by decide +kernel
theorem dX5_swap_8 : decode cX5_swap 8 = .ok (.ldc 50, 2) := by decide +kernel
theorem dX5_swap_10 : decode cX5_swap 10 = .ok (.invokevirtual 74, 3) := by decide +kernel
theorem dX5_swap_13 : decode cX5_swap 13 = .ok (.ireturn, 1) := by decide +kernel
theorem dX5_swap_14 : decode cX5_swap 14 = .ok (.aload_n 0, 1) := by decide +kernel
theorem dX5_swap_15 : decode cX5_swap 15 = .ok (.invokevirtual 172, 3) := by decide +kernel
theorem dX5_swap_18 : decode cX5_swap 18 = .ok (.iconst (-1), 1) := by decide +kernel
theorem dX5_swap_19 : decode cX5_swap 19 = .ok (.istore_n 2, 1) := by decide +kernel
theorem dX5_swap_20 : decode cX5_swap 20 = .ok (.aload_n 0, 1) := by decide +kernel
theorem dX5_swap_21 : decode cX5_swap 21 = .ok (.aload_n 0, 1) := by decide +kernel
theorem dX5_swap_22 : decode cX5_swap 22 = .ok (.iload_n 1, 1) := by decide +kernel
theorem dX5_swap_23 : decode cX5_swap 23 = .ok (.invokevirtual 198, 3) := by decide +kernel
theorem dX5_swap_26 : decode cX5_swap 26 = .ok (.invokevirtual 175, 3) := by decide +kernel
theorem dX5_swap_29 : decode cX5_swap 29 = .ok (.istore_n 3, 1) := by decide +kernel
theorem dX5_swap_30 : decode cX5_swap 30 = .ok (.iconst 0, 1) := by decide +kernel
theorem dX5_swap_31 : decode cX5_swap 31 = .ok (.istore 4, 2) := by decide +kernel
theorem dX5_swap_33 : decode cX5_swap 33 = .ok (.iload 4, 2) := by decide +kernel
theorem dX5_swap_35 : decode cX5_swap 35 = .ok (.aload_n 0, 1) := by decide +kernel
theorem dX5_swap_36 : decode cX5_swap 36 = .ok (.getfield 7, 3) := by decide +kernel
theorem dX5_swap_39 : decode cX5_swap 39 = .ok (.iconst 1, 1) := by decide +kernel
theorem dX5_swap_40 : decode cX5_swap 40 = .ok (.iaload, 1) := by decide +kernel
theorem dX5_swap_41 : decode cX5_swap 41 = .ok (.if_icmp .ge 115, 3) := by decide +kernel
theorem dX5_swap_44 : decode cX5_swap 44 = .ok (.iload 4, 2) := by decide +kernel
theorem dX5_swap_46 : decode cX5_swap 46 = .ok (.iconst 1, 1) := by decide +kernel
theorem dX5_swap_47 : decode cX5_swap 47 = .ok (.iadd, 1) := by decide +kernel
theorem dX5_swap_48 : decode cX5_swap 48 = .ok (.istore 5, 2) := by decide +kernel
theorem dX5_swap_50 : decode cX5_swap 50 = .ok (.iload 5, 2) := by decide +kernel
theorem dX5_swap_52 : decode cX5_swap 52 = .ok (.aload_n 0, 1) := by decide +kernel
theorem dX5_swap_53 : decode cX5_swap 53 = .ok (.getfield 7, 3) := by decide +kernel
theorem dX5_swap_56 : decode cX5_swap 56 = .ok (.iconst 1, 1) := by decide +kernel
theorem dX5_swap_57 : decode cX5_swap 57 = .ok (.iaload, 1) := by decide +kernel
theorem dX5_swap_58 : decode cX5_swap 58 = .ok (.if_icmp .ge 92, 3) := by decide +kernel
theorem dX5_swap_61 : decode cX5_swap 61 = .ok (.aload_n 0, 1) := by decide +kernel
theorem dX5_swap_62 : decode cX5_swap 62 = .ok (.iload 4, 2) := by decide +kernel
theorem dX5_swap_64 : decode cX5_swap 64 = .ok (.iconst 1, 1) := by decide +kernel
theorem dX5_swap_65 : decode cX5_swap 65 = .ok (.invokevirtual 63, 3) := by decide +kernel
theorem dX5_swap_68 : decode cX5_swap 68 = .ok (.istore 6, 2) := by decide +kernel
theorem dX5_swap_70 : decode cX5_swap 70 = .ok (.aload_n 0, 1) := by decide +kernel
theorem dX5_swap_71 : decode cX5_swap 71 = .ok (.getfield 7, 3) := by decide +kernel
theorem dX5_swap_74 : decode cX5_swap 74 = .ok (.iload 4, 2) := by decide +kernel
theorem dX5_swap_76 : decode cX5_swap 76 = .ok (.iconst 1, 1) := by decide +kernel
theorem dX5_swap_77 : decode cX5_swap 77 = .ok (.invokestatic 59, 3) := by decide +kernel
theorem dX5_swap_80 : decode cX5_swap 80 = .ok (.aload_n 0, 1) := by decide +kernel
theorem dX5_swap_81 : decode cX5_swap 81 = .ok (.iload 5, 2) := by decide +kernel
theorem dX5_swap_83 : decode cX5_swap 83 = .ok (.iconst 1, 1) := by decide +kernel
theorem dX5_swap_84 : decode cX5_swap 84 = .ok (.invokevirtual 63, 3) := by decide +kernel
theorem dX5_swap_87 : decode cX5_swap 87 = .ok (.iastore, 1) := by decide +kernel
theorem dX5_swap_88 : decode cX5_swap 88 = .ok (.aload_n 0, 1) := by decide +kernel
theorem dX5_swap_89 : decode cX5_swap 89 = .ok (.getfield 7, 3) := by decide +kernel
theorem dX5_swap_92 : decode cX5_swap 92 = .ok (.iload 5, 2) := by decide +kernel
theorem dX5_swap_94 : decode cX5_swap 94 = .ok (.iconst 1, 1) := by decide +kernel
theorem dX5_swap_95 : decode cX5_swap 95 = .ok (.invokestatic 59, 3) := by decide +kernel
theorem dX5_swap_98 : decode cX5_swap 98 = .ok (.iload 6, 2) := by decide +kernel
theorem dX5_swap_100 : decode cX5_swap 100 = .ok (.iastore, 1) := by decide +kernel
theorem dX5_swap_101 : decode cX5_swap 101 = .ok (.aload_n 0, 1) := by decide +kernel
theorem dX5_swap_102 : decode cX5_swap 102 = .ok (.aload_n 0, 1) := by decide +kernel
theorem dX5_swap_103 : decode cX5_swap 103 = .ok (.iload_n 1, 1) := by decide +kernel
theorem dX5_swap_104 : decode cX5_swap 104 = .ok (.invokevirtual 198, 3) := by decide +kernel
theorem dX5_swap_107 : decode cX5_swap 107 = .ok (.invokevirtual 175, 3) := by decide +kernel
theorem dX5_swap_110 : decode cX5_swap 110 = .ok (.istore 7, 2) := by decide +kernel
theorem dX5_swap_112 : decode cX5_swap 112 = .ok (.iload 7, 2) := by decide +kernel
theorem dX5_swap_114 : decode cX5_swap 114 = .ok (.iload_n 3, 1) := by decide +kernel
theorem dX5_swap_115 : decode cX5_swap 115 = .ok (.if_icmp .le 14, 3) := by decide +kernel
theorem dX5_swap_118 : decode cX5_swap 118 = .ok (.bipush 10, 2) := by decide +kernel
theorem dX5_swap_120 : decode cX5_swap 120 = .ok (.iload 4, 2) := by decide +kernel
theorem dX5_swap_122 : decode cX5_swap 122 = .ok (.imul, 1) := by decide +kernel
theorem dX5_swap_123 : decode cX5_swap 123 = .ok (.iload 5, 2) := by decide +kernel
theorem dX5_swap_125 : decode cX5_swap 125 = .ok (.iadd, 1) := by decide +kernel
theorem dX5_swap_126 : decode cX5_swap 126 = .ok (.goto 4, 3) := by decide +kernel
theorem dX5_swap_129 : decode cX5_swap 129 = .ok (.iload_n 2, 1) := by decide +kernel
theorem dX5_swap_130 : decode cX5_swap 130 = .ok (.istore_n 2, 1) := by decide +kernel
theorem dX5_swap_131 : decode cX5_swap 131 = .ok (.iload 7, 2) := by decide +kernel
theorem dX5_swap_133 : decode cX5_swap 133 = .ok (.iload_n 3, 1) := by decide +kernel
theorem dX5_swap_134 : decode cX5_swap 134 = .ok (.if_icmp .le 8, 3) := by decide +kernel
theorem dX5_swap_137 : decode cX5_swap 137 = .ok (.iload 7, 2) := by decide +kernel
theorem dX5_swap_139 : decode cX5_swap 139 = .ok (.goto 4, 3) := by decide +kernel
theorem dX5_swap_142 : decode cX5_swap 142 = .ok (.iload_n 3, 1) := by decide +kernel
theorem dX5_swap_143 : decode cX5_swap 143 = .ok (.istore_n 3, 1) := by decide +kernel
theorem dX5_swap_144 : decode cX5_swap 144 = .ok (.iinc 5 1, 3) := by decide +kernel
theorem dX5_swap_147 : decode cX5_swap 147 = .ok (.goto (-97), 3) := by decide +kernel
theorem dX5_swap_150 : decode cX5_swap 150 = .ok (.iinc 4 1, 3) := by decide +kernel
theorem dX5_swap_153 : decode cX5_swap 153 = .ok (.goto (-120), 3) := by decide +kernel
theorem dX5_swap_156 : decode cX5_swap 156 = .ok (.iload_n 2, 1) := by decide +kernel
theorem dX5_swap_157 : decode cX5_swap 157 = .ok (.ifCond .ge 12, 3) := by decide +kernel
theorem dX5_swap_160 : decode cX5_swap 160 = .ok (.aload_n 0, 1) := by decide +kernel
theorem dX5_swap_161 : decode cX5_swap 161 = .ok (.ldc 178, 2) := by decide +kernel
theorem dX5_swap_163 : decode cX5_swap 163 = .ok (.invokevirtual 74, 3) := by decide +kernel
theorem dX5_swap_166 : decode cX5_swap 166 = .ok (.goto 4, 3) := by decide +kernel
theorem dX5_swap_169 : decode cX5_swap 169 = .ok (.iload_n 2, 1) := by decide +kernel
theorem dX5_swap_170 : decode cX5_swap 170 = .ok (.ireturn, 1) := by decide +kernel
theorem dX5_walks_0 : decode cX5_walks 0 = .ok (.iload_n 1, 1) := by decide +kernel
theorem dX5_walks_1 : decode cX5_walks 1 = .ok (.istore_n 3, 1) := by decide +kernel
theorem dX5_walks_2 : decode cX5_walks 2 = .ok (.iconst 0, 1) := by decide +kernel
theorem dX5_walks_3 : decode cX5_walks 3 = .ok (.istore 4, 2) := by decide +kernel
theorem dX5_walks_5 : decode cX5_walks 5 = .ok (.iload_n 3, 1) := by decide +kernel
theorem dX5_walks_6 : decode cX5_walks 6 = .ok (.iload_n 2, 1) := by decide +kernel
theorem dX5_walks_7 : decode cX5_walks 7 = .ok (.if_icmp .eq 51, 3) := by decide +kernel
theorem dX5_walks_10 : decode cX5_walks 10 = .ok (.iload 4, 2) := by decide +kernel
theorem dX5_walks_12 : decode cX5_walks 12 = .ok (.bipush 80, 2) := by decide +kernel
theorem dX5_walks_14 : decode cX5_walks 14 = .ok (.if_icmp .ge 44, 3) := by decide +kernel
theorem dX5_walks_17 : decode cX5_walks 17 = .ok (.iload_n 3, 1) := by decide +kernel
theorem dX5_walks_18 : decode cX5_walks 18 = .ok (.invokestatic 91, 3) := by decide +kernel
theorem dX5_walks_21 : decode cX5_walks 21 = .ok (.istore 5, 2) := by decide +kernel
theorem dX5_walks_23 : decode cX5_walks 23 = .ok (.aload_n 0, 1) := by decide +kernel
theorem dX5_walks_24 : decode cX5_walks 24 = .ok (.iload 5, 2) := by decide +kernel
theorem dX5_walks_26 : decode cX5_walks 26 = .ok (.invokevirtual 84, 3) := by decide +kernel
theorem dX5_walks_29 : decode cX5_walks 29 = .ok (.ifCond .eq 17, 3) := by decide +kernel
theorem dX5_walks_32 : decode cX5_walks 32 = .ok (.aload_n 0, 1) := by decide +kernel
theorem dX5_walks_33 : decode cX5_walks 33 = .ok (.iload 5, 2) := by decide +kernel
theorem dX5_walks_35 : decode cX5_walks 35 = .ok (.invokevirtual 87, 3) := by decide +kernel
theorem dX5_walks_38 : decode cX5_walks 38 = .ok (.ifCond .ge 8, 3) := by decide +kernel
theorem dX5_walks_41 : decode cX5_walks 41 = .ok (.iload 5, 2) := by decide +kernel
theorem dX5_walks_43 : decode cX5_walks 43 = .ok (.goto 4, 3) := by decide +kernel
theorem dX5_walks_46 : decode cX5_walks 46 = .ok (.iload_n 3, 1) := by decide +kernel
theorem dX5_walks_47 : decode cX5_walks 47 = .ok (.istore_n 3, 1) := by decide +kernel
theorem dX5_walks_48 : decode cX5_walks 48 = .ok (.aload_n 0, 1) := by decide +kernel
theorem dX5_walks_49 : decode cX5_walks 49 = .ok (.invokevirtual 152, 3) := by decide +kernel
theorem dX5_walks_52 : decode cX5_walks 52 = .ok (.iinc 4 1, 3) := by decide +kernel
theorem dX5_walks_55 : decode cX5_walks 55 = .ok (.goto (-50), 3) := by decide +kernel
theorem dX5_walks_58 : decode cX5_walks 58 = .ok (.iload_n 3, 1) := by decide +kernel
theorem dX5_walks_59 : decode cX5_walks 59 = .ok (.iload_n 2, 1) := by decide +kernel
theorem dX5_walks_60 : decode cX5_walks 60 = .ok (.if_icmp .ne 8, 3) := by decide +kernel
theorem dX5_walks_63 : decode cX5_walks 63 = .ok (.iload 4, 2) := by decide +kernel
theorem dX5_walks_65 : decode cX5_walks 65 = .ok (.goto 4, 3) := by decide +kernel
theorem dX5_walks_68 : decode cX5_walks 68 = .ok (.iconst (-1), 1) := by decide +kernel
theorem dX5_walks_69 : decode cX5_walks 69 = .ok (.ireturn, 1) := by decide +kernel
theorem dX5_journey_0 : decode cX5_journey 0 = .ok (.iload_n 1, 1) := by decide +kernel
theorem dX5_journey_1 : decode cX5_journey 1 = .ok (.invokestatic 66, 3) := by decide +kernel
theorem dX5_journey_4 : decode cX5_journey 4 = .ok (.ifCond .eq 10, 3) := by decide +kernel
theorem dX5_journey_7 : decode cX5_journey 7 = .ok (.iload_n 2, 1) := by decide +kernel
theorem dX5_journey_8 : decode cX5_journey 8 = .ok (.invokestatic 66, 3) := by decide +kernel
theorem dX5_journey_11 : decode cX5_journey 11 = .ok (.ifCond .ne 10, 3) := by decide +kernel
theorem dX5_journey_14 : decode cX5_journey 14 = .ok (.aload_n 0, 1) := by decide +kernel
theorem dX5_journey_15 : decode cX5_journey 15 = .ok (.ldc 50, 2) := by decide +kernel
theorem dX5_journey_17 : decode cX5_journey 17 = .ok (.invokevirtual 74, 3) := by decide +kernel
theorem dX5_journey_20 : decode cX5_journey 20 = .ok (.ireturn, 1) := by decide +kernel
theorem dX5_journey_21 : decode cX5_journey 21 = .ok (.aload_n 0, 1) := by decide +kernel
theorem dX5_journey_22 : decode cX5_journey 22 = .ok (.invokevirtual 172, 3) := by decide +kernel
theorem dX5_journey_25 : decode cX5_journey 25 = .ok (.aload_n 0, 1) := by decide +kernel
theorem dX5_journey_26 : decode cX5_journey 26 = .ok (.aload_n 0, 1) := by decide +kernel
theorem dX5_journey_27 : decode cX5_journey 27 = .ok (.iload_n 1, 1) := by decide +kernel
theorem dX5_journey_28 : decode cX5_journey 28 = .ok (.iload_n 2, 1) := by decide +kernel
theorem dX5_journey_29 : decode cX5_journey 29 = .ok (.invokevirtual 201, 3) := by decide +kernel
theorem dX5_journey_32 : decode cX5_journey 32 = .ok (.invokevirtual 175, 3) := by decide +kernel
theorem dX5_journey_35 : decode cX5_journey 35 = .ok (.istore_n 3, 1) := by decide +kernel
theorem dX5_journey_36 : decode cX5_journey 36 = .ok (.iload_n 3, 1) := by decide +kernel
theorem dX5_journey_37 : decode cX5_journey 37 = .ok (.ifCond .ge 12, 3) := by decide +kernel
theorem dX5_journey_40 : decode cX5_journey 40 = .ok (.aload_n 0, 1) := by decide +kernel
theorem dX5_journey_41 : decode cX5_journey 41 = .ok (.ldc 178, 2) := by decide +kernel
theorem dX5_journey_43 : decode cX5_journey 43 = .ok (.invokevirtual 74, 3) := by decide +kernel
theorem dX5_journey_46 : decode cX5_journey 46 = .ok (.goto 4, 3) := by decide +kernel
theorem dX5_journey_49 : decode cX5_journey 49 = .ok (.iload_n 3, 1) := by decide +kernel
theorem dX5_journey_50 : decode cX5_journey 50 = .ok (.ireturn, 1) := by decide +kernel
theorem dX5_sets_0 : decode cX5_sets 0 = .ok (.iload_n 1, 1) := by decide +kernel
theorem dX5_sets_1 : decode cX5_sets 1 = .ok (.invokestatic 66, 3) := by decide +kernel
theorem dX5_sets_4 : decode cX5_sets 4 = .ok (.ifCond .eq 10, 3) := by decide +kernel
theorem dX5_sets_7 : decode cX5_sets 7 = .ok (.iload_n 2, 1) := by decide +kernel
theorem dX5_sets_8 : decode cX5_sets 8 = .ok (.invokestatic 66, 3) := by decide +kernel
theorem dX5_sets_11 : decode cX5_sets 11 = .ok (.ifCond .ne 10, 3) := by decide +kernel
theorem dX5_sets_14 : decode cX5_sets 14 = .ok (.aload_n 0, 1) := by decide +kernel
theorem dX5_sets_15 : decode cX5_sets 15 = .ok (.ldc 50, 2) := by decide +kernel
theorem dX5_sets_17 : decode cX5_sets 17 = .ok (.invokevirtual 74, 3) := by decide +kernel
theorem dX5_sets_20 : decode cX5_sets 20 = .ok (.ireturn, 1) := by decide +kernel
theorem dX5_sets_21 : decode cX5_sets 21 = .ok (.aload_n 0, 1) := by decide +kernel
theorem dX5_sets_22 : decode cX5_sets 22 = .ok (.invokevirtual 172, 3) := by decide +kernel
theorem dX5_sets_25 : decode cX5_sets 25 = .ok (.iconst (-1), 1) := by decide +kernel
theorem dX5_sets_26 : decode cX5_sets 26 = .ok (.istore_n 3, 1) := by decide +kernel
theorem dX5_sets_27 : decode cX5_sets 27 = .ok (.iconst 0, 1) := by decide +kernel
theorem dX5_sets_28 : decode cX5_sets 28 = .ok (.istore 4, 2) := by decide +kernel
theorem dX5_sets_30 : decode cX5_sets 30 = .ok (.iconst 0, 1) := by decide +kernel
theorem dX5_sets_31 : decode cX5_sets 31 = .ok (.istore 5, 2) := by decide +kernel
theorem dX5_sets_33 : decode cX5_sets 33 = .ok (.iload 5, 2) := by decide +kernel
theorem dX5_sets_35 : decode cX5_sets 35 = .ok (.bipush 20, 2) := by decide +kernel
theorem dX5_sets_37 : decode cX5_sets 37 = .ok (.if_icmp .gt 104, 3) := by decide +kernel
theorem dX5_sets_40 : decode cX5_sets 40 = .ok (.iconst 0, 1) := by decide +kernel
theorem dX5_sets_41 : decode cX5_sets 41 = .ok (.istore 6, 2) := by decide +kernel
theorem dX5_sets_43 : decode cX5_sets 43 = .ok (.iload 6, 2) := by decide +kernel
theorem dX5_sets_45 : decode cX5_sets 45 = .ok (.bipush 101, 2) := by decide +kernel
theorem dX5_sets_47 : decode cX5_sets 47 = .ok (.if_icmp .ge 23, 3) := by decide +kernel
theorem dX5_sets_50 : decode cX5_sets 50 = .ok (.aload_n 0, 1) := by decide +kernel
theorem dX5_sets_51 : decode cX5_sets 51 = .ok (.getfield 22, 3) := by decide +kernel
theorem dX5_sets_54 : decode cX5_sets 54 = .ok (.iload 6, 2) := by decide +kernel
theorem dX5_sets_56 : decode cX5_sets 56 = .ok (.aload_n 0, 1) := by decide +kernel
theorem dX5_sets_57 : decode cX5_sets 57 = .ok (.getfield 7, 3) := by decide +kernel
theorem dX5_sets_60 : decode cX5_sets 60 = .ok (.iload 6, 2) := by decide +kernel
theorem dX5_sets_62 : decode cX5_sets 62 = .ok (.iaload, 1) := by decide +kernel
theorem dX5_sets_63 : decode cX5_sets 63 = .ok (.iastore, 1) := by decide +kernel
theorem dX5_sets_64 : decode cX5_sets 64 = .ok (.iinc 6 1, 3) := by decide +kernel
theorem dX5_sets_67 : decode cX5_sets 67 = .ok (.goto (-24), 3) := by decide +kernel
theorem dX5_sets_70 : decode cX5_sets 70 = .ok (.aload_n 0, 1) := by decide +kernel
theorem dX5_sets_71 : decode cX5_sets 71 = .ok (.iload_n 1, 1) := by decide +kernel
theorem dX5_sets_72 : decode cX5_sets 72 = .ok (.iload_n 2, 1) := by decide +kernel
theorem dX5_sets_73 : decode cX5_sets 73 = .ok (.invokevirtual 201, 3) := by decide +kernel
theorem dX5_sets_76 : decode cX5_sets 76 = .ok (.istore 6, 2) := by decide +kernel
theorem dX5_sets_78 : decode cX5_sets 78 = .ok (.iconst 0, 1) := by decide +kernel
theorem dX5_sets_79 : decode cX5_sets 79 = .ok (.istore 7, 2) := by decide +kernel
theorem dX5_sets_81 : decode cX5_sets 81 = .ok (.iload 7, 2) := by decide +kernel
theorem dX5_sets_83 : decode cX5_sets 83 = .ok (.bipush 101, 2) := by decide +kernel
theorem dX5_sets_85 : decode cX5_sets 85 = .ok (.if_icmp .ge 23, 3) := by decide +kernel
theorem dX5_sets_88 : decode cX5_sets 88 = .ok (.aload_n 0, 1) := by decide +kernel
theorem dX5_sets_89 : decode cX5_sets 89 = .ok (.getfield 7, 3) := by decide +kernel
theorem dX5_sets_92 : decode cX5_sets 92 = .ok (.iload 7, 2) := by decide +kernel
theorem dX5_sets_94 : decode cX5_sets 94 = .ok (.aload_n 0, 1) := by decide +kernel
theorem dX5_sets_95 : decode cX5_sets 95 = .ok (.getfield 22, 3) := by decide +kernel
theorem dX5_sets_98 : decode cX5_sets 98 = .ok (.iload 7, 2) := by decide +kernel
theorem dX5_sets_100 : decode cX5_sets 100 = .ok (.iaload, 1) := by decide +kernel
theorem dX5_sets_101 : decode cX5_sets 101 = .ok (.iastore, 1) := by decide +kernel
theorem dX5_sets_102 : decode cX5_sets 102 = .ok (.iinc 7 1, 3) := by decide +kernel
theorem dX5_sets_105 : decode cX5_sets 105 = .ok (.goto (-24), 3) := by decide +kernel
theorem dX5_sets_108 : decode cX5_sets 108 = .ok (.iload 6, 2) := by decide +kernel
theorem dX5_sets_110 : decode cX5_sets 110 = .ok (.ifCond .lt 21, 3) := by decide +kernel
theorem dX5_sets_113 : decode cX5_sets 113 = .ok (.iload_n 3, 1) := by decide +kernel
theorem dX5_sets_114 : decode cX5_sets 114 = .ok (.ifCond .lt 10, 3) := by decide +kernel
theorem dX5_sets_117 : decode cX5_sets 117 = .ok (.iload 6, 2) := by decide +kernel
theorem dX5_sets_119 : decode cX5_sets 119 = .ok (.iload 4, 2) := by decide +kernel
theorem dX5_sets_121 : decode cX5_sets 121 = .ok (.if_icmp .ge 10, 3) := by decide +kernel
theorem dX5_sets_124 : decode cX5_sets 124 = .ok (.iload 5, 2) := by decide +kernel
theorem dX5_sets_126 : decode cX5_sets 126 = .ok (.istore_n 3, 1) := by decide +kernel
theorem dX5_sets_127 : decode cX5_sets 127 = .ok (.iload 6, 2) := by decide +kernel
theorem dX5_sets_129 : decode cX5_sets 129 = .ok (.istore 4, 2) := by decide +kernel
theorem dX5_sets_131 : decode cX5_sets 131 = .ok (.aload_n 0, 1) := by decide +kernel
theorem dX5_sets_132 : decode cX5_sets 132 = .ok (.invokevirtual 152, 3) := by decide +kernel
theorem dX5_sets_135 : decode cX5_sets 135 = .ok (.iinc 5 1, 3) := by decide +kernel
theorem dX5_sets_138 : decode cX5_sets 138 = .ok (.goto (-105), 3) := by decide +kernel
theorem dX5_sets_141 : decode cX5_sets 141 = .ok (.aload_n 0, 1) := by decide +kernel
theorem dX5_sets_142 : decode cX5_sets 142 = .ok (.iload_n 3, 1) := by decide +kernel
theorem dX5_sets_143 : decode cX5_sets 143 = .ok (.invokevirtual 175, 3) := by decide +kernel
theorem dX5_sets_146 : decode cX5_sets 146 = .ok (.istore 5, 2) := by decide +kernel
theorem dX5_sets_148 : decode cX5_sets 148 = .ok (.iload 5, 2) := by decide +kernel
theorem dX5_sets_150 : decode cX5_sets 150 = .ok (.ifCond .ge 12, 3) := by decide +kernel
theorem dX5_sets_153 : decode cX5_sets 153 = .ok (.aload_n 0, 1) := by decide +kernel
theorem dX5_sets_154 : decode cX5_sets 154 = .ok (.ldc 178, 2) := by decide +kernel
theorem dX5_sets_156 : decode cX5_sets 156 = .ok (.invokevirtual 74, 3) := by decide +kernel
theorem dX5_sets_159 : decode cX5_sets 159 = .ok (.goto 5, 3) := by decide +kernel
theorem dX5_sets_162 : decode cX5_sets 162 = .ok (.iload 5, 2) := by decide +kernel
theorem dX5_sets_164 : decode cX5_sets 164 = .ok (.ireturn, 1) := by decide +kernel
theorem dX5_feed_0 : decode cX5_feed 0 = .ok (.iload_n 2, 1) := by decide +kernel
theorem dX5_feed_1 : decode cX5_feed 1 = .ok (.i2l, 1) := by decide +kernel
theorem dX5_feed_2 : decode cX5_feed 2 = .ok (.lconst 1, 1) := by decide +kernel
theorem dX5_feed_3 : decode cX5_feed 3 = .ok (.ldc2_w 204, 3) := by decide +kernel
theorem dX5_feed_6 : decode cX5_feed 6 = .ok (.invokestatic 53, 3) := by decide +kernel
theorem dX5_feed_9 : decode cX5_feed 9 = .ok (.ifCond .ne 10, 3) := by decide +kernel
theorem dX5_feed_12 : decode cX5_feed 12 = .ok (.aload_n 0, 1) := by decide +kernel
theorem dX5_feed_13 : decode cX5_feed 13 = .ok (.ldc 50, 2) := by decide +kernel
theorem dX5_feed_15 : decode cX5_feed 15 = .ok (.invokevirtual 74, 3) := by decide +kernel
theorem dX5_feed_18 : decode cX5_feed 18 = .ok (.ireturn, 1) := by decide +kernel
theorem dX5_feed_19 : decode cX5_feed 19 = .ok (.aload_n 0, 1) := by decide +kernel
theorem dX5_feed_20 : decode cX5_feed 20 = .ok (.getfield 206, 3) := by decide +kernel
theorem dX5_feed_23 : decode cX5_feed 23 = .ok (.iload_n 2, 1) := by decide +kernel
theorem dX5_feed_24 : decode cX5_feed 24 = .ok (.iadd, 1) := by decide +kernel
theorem dX5_feed_25 : decode cX5_feed 25 = .ok (.bipush 120, 2) := by decide +kernel
theorem dX5_feed_27 : decode cX5_feed 27 = .ok (.if_icmp .le 10, 3) := by decide +kernel
theorem dX5_feed_30 : decode cX5_feed 30 = .ok (.aload_n 0, 1) := by decide +kernel
theorem dX5_feed_31 : decode cX5_feed 31 = .ok (.ldc 90, 2) := by decide +kernel
theorem dX5_feed_33 : decode cX5_feed 33 = .ok (.invokevirtual 74, 3) := by decide +kernel
theorem dX5_feed_36 : decode cX5_feed 36 = .ok (.ireturn, 1) := by decide +kernel
theorem dX5_feed_37 : decode cX5_feed 37 = .ok (.iload_n 2, 1) := by decide +kernel
theorem dX5_feed_38 : decode cX5_feed 38 = .ok (.iconst 1, 1) := by decide +kernel
theorem dX5_feed_39 : decode cX5_feed 39 = .ok (.isub, 1) := by decide +kernel
theorem dX5_feed_40 : decode cX5_feed 40 = .ok (.istore_n 3, 1) := by decide +kernel
theorem dX5_feed_41 : decode cX5_feed 41 = .ok (.iload_n 3, 1) := by decide +kernel
theorem dX5_feed_42 : decode cX5_feed 42 = .ok (.ifCond .lt 38, 3) := by decide +kernel
theorem dX5_feed_45 : decode cX5_feed 45 = .ok (.aload_n 0, 1) := by decide +kernel
theorem dX5_feed_46 : decode cX5_feed 46 = .ok (.getfield 34, 3) := by decide +kernel
theorem dX5_feed_49 : decode cX5_feed 49 = .ok (.aload_n 0, 1) := by decide +kernel
theorem dX5_feed_50 : decode cX5_feed 50 = .ok (.getfield 206, 3) := by decide +kernel
theorem dX5_feed_53 : decode cX5_feed 53 = .ok (.iload_n 1, 1) := by decide +kernel
theorem dX5_feed_54 : decode cX5_feed 54 = .ok (.bipush 8, 2) := by decide +kernel
theorem dX5_feed_56 : decode cX5_feed 56 = .ok (.iload_n 3, 1) := by decide +kernel
theorem dX5_feed_57 : decode cX5_feed 57 = .ok (.imul, 1) := by decide +kernel
theorem dX5_feed_58 : decode cX5_feed 58 = .ok (.ishr, 1) := by decide +kernel
theorem dX5_feed_59 : decode cX5_feed 59 = .ok (.sipush 255, 3) := by decide +kernel
theorem dX5_feed_62 : decode cX5_feed 62 = .ok (.iand, 1) := by decide +kernel
theorem dX5_feed_63 : decode cX5_feed 63 = .ok (.iastore, 1) := by decide +kernel
theorem dX5_feed_64 : decode cX5_feed 64 = .ok (.aload_n 0, 1) := by decide +kernel
theorem dX5_feed_65 : decode cX5_feed 65 = .ok (.dup, 1) := by decide +kernel
theorem dX5_feed_66 : decode cX5_feed 66 = .ok (.getfield 206, 3) := by decide +kernel
theorem dX5_feed_69 : decode cX5_feed 69 = .ok (.iconst 1, 1) := by decide +kernel
theorem dX5_feed_70 : decode cX5_feed 70 = .ok (.iadd, 1) := by decide +kernel
theorem dX5_feed_71 : decode cX5_feed 71 = .ok (.putfield 206, 3) := by decide +kernel
theorem dX5_feed_74 : decode cX5_feed 74 = .ok (.iinc 3 (-1), 3) := by decide +kernel
theorem dX5_feed_77 : decode cX5_feed 77 = .ok (.goto (-36), 3) := by decide +kernel
theorem dX5_feed_80 : decode cX5_feed 80 = .ok (.aload_n 0, 1) := by decide +kernel
theorem dX5_feed_81 : decode cX5_feed 81 = .ok (.getfield 206, 3) := by decide +kernel
theorem dX5_feed_84 : decode cX5_feed 84 = .ok (.ireturn, 1) := by decide +kernel
theorem dX5_wipe_0 : decode cX5_wipe 0 = .ok (.aload_n 0, 1) := by decide +kernel
theorem dX5_wipe_1 : decode cX5_wipe 1 = .ok (.getfield 206, 3) := by decide +kernel
theorem dX5_wipe_4 : decode cX5_wipe 4 = .ok (.istore_n 1, 1) := by decide +kernel
theorem dX5_wipe_5 : decode cX5_wipe 5 = .ok (.aload_n 0, 1) := by decide +kernel
theorem dX5_wipe_6 : decode cX5_wipe 6 = .ok (.iconst 0, 1) := by decide +kernel
theorem dX5_wipe_7 : decode cX5_wipe 7 = .ok (.putfield 206, 3) := by decide +kernel
theorem dX5_wipe_10 : decode cX5_wipe 10 = .ok (.iload_n 1, 1) := by decide +kernel
theorem dX5_wipe_11 : decode cX5_wipe 11 = .ok (.ireturn, 1) := by decide +kernel
theorem dX5_byteAt_0 : decode cX5_byteAt 0 = .ok (.iload_n 1, 1) := by decide +kernel
theorem dX5_byteAt_1 : decode cX5_byteAt 1 = .ok (.aload_n 0, 1) := by decide +kernel
theorem dX5_byteAt_2 : decode cX5_byteAt 2 = .ok (.getfield 206, 3) := by decide +kernel
theorem dX5_byteAt_5 : decode cX5_byteAt 5 = .ok (.if_icmp .ge 12, 3) := by decide +kernel
theorem dX5_byteAt_8 : decode cX5_byteAt 8 = .ok (.aload_n 0, 1) := by decide +kernel
theorem dX5_byteAt_9 : decode cX5_byteAt 9 = .ok (.getfield 34, 3) := by decide +kernel
theorem dX5_byteAt_12 : decode cX5_byteAt 12 = .ok (.iload_n 1, 1) := by decide +kernel
theorem dX5_byteAt_13 : decode cX5_byteAt 13 = .ok (.iaload, 1) := by decide +kernel
theorem dX5_byteAt_14 : decode cX5_byteAt 14 = .ok (.goto 4, 3) := by decide +kernel
theorem dX5_byteAt_17 : decode cX5_byteAt 17 = .ok (.iconst (-1), 1) := by decide +kernel
theorem dX5_byteAt_18 : decode cX5_byteAt 18 = .ok (.ireturn, 1) := by decide +kernel
theorem dX5_isLetter_0 : decode cX5_isLetter 0 = .ok (.iload_n 0, 1) := by decide +kernel
theorem dX5_isLetter_1 : decode cX5_isLetter 1 = .ok (.i2l, 1) := by decide +kernel
theorem dX5_isLetter_2 : decode cX5_isLetter 2 = .ok (.ldc2_w 210, 3) := by decide +kernel
theorem dX5_isLetter_5 : decode cX5_isLetter 5 = .ok (.ldc2_w 212, 3) := by decide +kernel
theorem dX5_isLetter_8 : decode cX5_isLetter 8 = .ok (.invokestatic 53, 3) := by decide +kernel
theorem dX5_isLetter_11 : decode cX5_isLetter 11 = .ok (.ireturn, 1) := by decide +kernel
theorem dX5_isDigit_0 : decode cX5_isDigit 0 = .ok (.iload_n 0, 1) := by decide +kernel
theorem dX5_isDigit_1 : decode cX5_isDigit 1 = .ok (.i2l, 1) := by decide +kernel
theorem dX5_isDigit_2 : decode cX5_isDigit 2 = .ok (.ldc2_w 214, 3) := by decide +kernel
theorem dX5_isDigit_5 : decode cX5_isDigit 5 = .ok (.ldc2_w 216, 3) := by decide +kernel
theorem dX5_isDigit_8 : decode cX5_isDigit 8 = .ok (.invokestatic 53, 3) := by decide +kernel
theorem dX5_isDigit_11 : decode cX5_isDigit 11 = .ok (.ireturn, 1) := by decide +kernel
theorem dX5_token_0 : decode cX5_token 0 = .ok (.aload_n 0, 1) := by decide +kernel
theorem dX5_token_1 : decode cX5_token 1 = .ok (.aload_n 0, 1) := by decide +kernel
theorem dX5_token_2 : decode cX5_token 2 = .ok (.getfield 218, 3) := by decide +kernel
theorem dX5_token_5 : decode cX5_token 5 = .ok (.putfield 221, 3) := by decide +kernel
theorem dX5_token_8 : decode cX5_token 8 = .ok (.aload_n 0, 1) := by decide +kernel
theorem dX5_token_9 : decode cX5_token 9 = .ok (.aload_n 0, 1) := by decide +kernel
theorem dX5_token_10 : decode cX5_token 10 = .ok (.getfield 221, 3) := by decide +kernel
theorem dX5_token_13 : decode cX5_token 13 = .ok (.invokevirtual 224, 3) := by decide +kernel
theorem dX5_token_16 : decode cX5_token 16 = .ok (.bipush 32, 2) := by decide +kernel
theorem dX5_token_18 : decode cX5_token 18 = .ok (.if_icmp .ne 16, 3) := by decide +kernel
theorem dX5_token_21 : decode cX5_token 21 = .ok (.aload_n 0, 1) := by decide +kernel
theorem dX5_token_22 : decode cX5_token 22 = .ok (.dup, 1) := by decide +kernel
theorem dX5_token_23 : decode cX5_token 23 = .ok (.getfield 221, 3) := by decide +kernel
theorem dX5_token_26 : decode cX5_token 26 = .ok (.iconst 1, 1) := by decide +kernel
theorem dX5_token_27 : decode cX5_token 27 = .ok (.iadd, 1) := by decide +kernel
theorem dX5_token_28 : decode cX5_token 28 = .ok (.putfield 221, 3) := by decide +kernel
theorem dX5_token_31 : decode cX5_token 31 = .ok (.goto (-23), 3) := by decide +kernel
theorem dX5_token_34 : decode cX5_token 34 = .ok (.aload_n 0, 1) := by decide +kernel
theorem dX5_token_35 : decode cX5_token 35 = .ok (.aload_n 0, 1) := by decide +kernel
theorem dX5_token_36 : decode cX5_token 36 = .ok (.getfield 221, 3) := by decide +kernel
theorem dX5_token_39 : decode cX5_token 39 = .ok (.invokevirtual 224, 3) := by decide +kernel
theorem dX5_token_42 : decode cX5_token 42 = .ok (.invokestatic 227, 3) := by decide +kernel
theorem dX5_token_45 : decode cX5_token 45 = .ok (.istore_n 1, 1) := by decide +kernel
theorem dX5_token_46 : decode cX5_token 46 = .ok (.aload_n 0, 1) := by decide +kernel
theorem dX5_token_47 : decode cX5_token 47 = .ok (.aload_n 0, 1) := by decide +kernel
theorem dX5_token_48 : decode cX5_token 48 = .ok (.getfield 221, 3) := by decide +kernel
theorem dX5_token_51 : decode cX5_token 51 = .ok (.invokevirtual 224, 3) := by decide +kernel
theorem dX5_token_54 : decode cX5_token 54 = .ok (.invokestatic 230, 3) := by decide +kernel
theorem dX5_token_57 : decode cX5_token 57 = .ok (.istore_n 2, 1) := by decide +kernel
theorem dX5_token_58 : decode cX5_token 58 = .ok (.aload_n 0, 1) := by decide +kernel
theorem dX5_token_59 : decode cX5_token 59 = .ok (.aload_n 0, 1) := by decide +kernel
theorem dX5_token_60 : decode cX5_token 60 = .ok (.getfield 221, 3) := by decide +kernel
theorem dX5_token_63 : decode cX5_token 63 = .ok (.aload_n 0, 1) := by decide +kernel
theorem dX5_token_64 : decode cX5_token 64 = .ok (.getfield 206, 3) := by decide +kernel
theorem dX5_token_67 : decode cX5_token 67 = .ok (.if_icmp .ge 12, 3) := by decide +kernel
theorem dX5_token_70 : decode cX5_token 70 = .ok (.aload_n 0, 1) := by decide +kernel
theorem dX5_token_71 : decode cX5_token 71 = .ok (.getfield 221, 3) := by decide +kernel
theorem dX5_token_74 : decode cX5_token 74 = .ok (.iconst 1, 1) := by decide +kernel
theorem dX5_token_75 : decode cX5_token 75 = .ok (.iadd, 1) := by decide +kernel
theorem dX5_token_76 : decode cX5_token 76 = .ok (.goto 7, 3) := by decide +kernel
theorem dX5_token_79 : decode cX5_token 79 = .ok (.aload_n 0, 1) := by decide +kernel
theorem dX5_token_80 : decode cX5_token 80 = .ok (.getfield 221, 3) := by decide +kernel
theorem dX5_token_83 : decode cX5_token 83 = .ok (.putfield 218, 3) := by decide +kernel
theorem dX5_token_86 : decode cX5_token 86 = .ok (.iload_n 1, 1) := by decide +kernel
theorem dX5_token_87 : decode cX5_token 87 = .ok (.ifCond .eq 17, 3) := by decide +kernel
theorem dX5_token_90 : decode cX5_token 90 = .ok (.aload_n 0, 1) := by decide +kernel
theorem dX5_token_91 : decode cX5_token 91 = .ok (.aload_n 0, 1) := by decide +kernel
theorem dX5_token_92 : decode cX5_token 92 = .ok (.getfield 218, 3) := by decide +kernel
theorem dX5_token_95 : decode cX5_token 95 = .ok (.invokevirtual 224, 3) := by decide +kernel
theorem dX5_token_98 : decode cX5_token 98 = .ok (.invokestatic 227, 3) := by decide +kernel
theorem dX5_token_101 : decode cX5_token 101 = .ok (.ifCond .ne 21, 3) := by decide +kernel
theorem dX5_token_104 : decode cX5_token 104 = .ok (.iload_n 2, 1) := by decide +kernel
theorem dX5_token_105 : decode cX5_token 105 = .ok (.ifCond .eq 30, 3) := by decide +kernel
theorem dX5_token_108 : decode cX5_token 108 = .ok (.aload_n 0, 1) := by decide +kernel
theorem dX5_token_109 : decode cX5_token 109 = .ok (.aload_n 0, 1) := by decide +kernel
theorem dX5_token_110 : decode cX5_token 110 = .ok (.getfield 218, 3) := by decide +kernel
theorem dX5_token_113 : decode cX5_token 113 = .ok (.invokevirtual 224, 3) := by decide +kernel
theorem dX5_token_116 : decode cX5_token 116 = .ok (.invokestatic 230, 3) := by decide +kernel
theorem dX5_token_119 : decode cX5_token 119 = .ok (.ifCond .eq 16, 3) := by decide +kernel
theorem dX5_token_122 : decode cX5_token 122 = .ok (.aload_n 0, 1) := by decide +kernel
theorem dX5_token_123 : decode cX5_token 123 = .ok (.dup, 1) := by decide +kernel
theorem dX5_token_124 : decode cX5_token 124 = .ok (.getfield 218, 3) := by decide +kernel
theorem dX5_token_127 : decode cX5_token 127 = .ok (.iconst 1, 1) := by decide +kernel
theorem dX5_token_128 : decode cX5_token 128 = .ok (.iadd, 1) := by decide +kernel
theorem dX5_token_129 : decode cX5_token 129 = .ok (.putfield 218, 3) := by decide +kernel
theorem dX5_token_132 : decode cX5_token 132 = .ok (.goto (-46), 3) := by decide +kernel
theorem dX5_token_135 : decode cX5_token 135 = .ok (.return_, 1) := by decide +kernel
theorem dX5_wants_0 : decode cX5_wants 0 = .ok (.aload_n 0, 1) := by decide +kernel
theorem dX5_wants_1 : decode cX5_wants 1 = .ok (.aload_n 0, 1) := by decide +kernel
theorem dX5_wants_2 : decode cX5_wants 2 = .ok (.getfield 233, 3) := by decide +kernel
theorem dX5_wants_5 : decode cX5_wants 5 = .ok (.ifCond .ne 7, 3) := by decide +kernel
theorem dX5_wants_8 : decode cX5_wants 8 = .ok (.iload_n 1, 1) := by decide +kernel
theorem dX5_wants_9 : decode cX5_wants 9 = .ok (.ifCond .ne 7, 3) := by decide +kernel
theorem dX5_wants_12 : decode cX5_wants 12 = .ok (.iconst 1, 1) := by decide +kernel
theorem dX5_wants_13 : decode cX5_wants 13 = .ok (.goto 4, 3) := by decide +kernel
theorem dX5_wants_16 : decode cX5_wants 16 = .ok (.iconst 0, 1) := by decide +kernel
theorem dX5_wants_17 : decode cX5_wants 17 = .ok (.putfield 233, 3) := by decide +kernel
theorem dX5_wants_20 : decode cX5_wants 20 = .ok (.aload_n 0, 1) := by decide +kernel
theorem dX5_wants_21 : decode cX5_wants 21 = .ok (.getfield 233, 3) := by decide +kernel
theorem dX5_wants_24 : decode cX5_wants 24 = .ok (.ifCond .ne 7, 3) := by decide +kernel
theorem dX5_wants_27 : decode cX5_wants 27 = .ok (.aload_n 0, 1) := by decide +kernel
theorem dX5_wants_28 : decode cX5_wants 28 = .ok (.invokevirtual 237, 3) := by decide +kernel
theorem dX5_wants_31 : decode cX5_wants 31 = .ok (.return_, 1) := by decide +kernel
theorem dX5_word_0 : decode cX5_word 0 = .ok (.lconst 0, 1) := by decide +kernel
theorem dX5_word_1 : decode cX5_word 1 = .ok (.lstore_n 1, 1) := by decide +kernel
theorem dX5_word_2 : decode cX5_word 2 = .ok (.aload_n 0, 1) := by decide +kernel
theorem dX5_word_3 : decode cX5_word 3 = .ok (.getfield 221, 3) := by decide +kernel
theorem dX5_word_6 : decode cX5_word 6 = .ok (.istore_n 3, 1) := by decide +kernel
theorem dX5_word_7 : decode cX5_word 7 = .ok (.iload_n 3, 1) := by decide +kernel
theorem dX5_word_8 : decode cX5_word 8 = .ok (.aload_n 0, 1) := by decide +kernel
theorem dX5_word_9 : decode cX5_word 9 = .ok (.getfield 218, 3) := by decide +kernel
theorem dX5_word_12 : decode cX5_word 12 = .ok (.if_icmp .ge 38, 3) := by decide +kernel
theorem dX5_word_15 : decode cX5_word 15 = .ok (.lload_n 1, 1) := by decide +kernel
theorem dX5_word_16 : decode cX5_word 16 = .ok (.ldc2_w 240, 3) := by decide +kernel
theorem dX5_word_19 : decode cX5_word 19 = .ok (.lcmp, 1) := by decide +kernel
theorem dX5_word_20 : decode cX5_word 20 = .ok (.ifCond .le 7, 3) := by decide +kernel
theorem dX5_word_23 : decode cX5_word 23 = .ok (.lload_n 1, 1) := by decide +kernel
theorem dX5_word_24 : decode cX5_word 24 = .ok (.goto 19, 3) := by decide +kernel
theorem dX5_word_27 : decode cX5_word 27 = .ok (.ldc2_w 242, 3) := by decide +kernel
theorem dX5_word_30 : decode cX5_word 30 = .ok (.lload_n 1, 1) := by decide +kernel
theorem dX5_word_31 : decode cX5_word 31 = .ok (.lmul, 1) := by decide +kernel
theorem dX5_word_32 : decode cX5_word 32 = .ok (.aload_n 0, 1) := by decide +kernel
theorem dX5_word_33 : decode cX5_word 33 = .ok (.getfield 34, 3) := by decide +kernel
theorem dX5_word_36 : decode cX5_word 36 = .ok (.iload_n 3, 1) := by decide +kernel
theorem dX5_word_37 : decode cX5_word 37 = .ok (.iaload, 1) := by decide +kernel
theorem dX5_word_38 : decode cX5_word 38 = .ok (.bipush 96, 2) := by decide +kernel
theorem dX5_word_40 : decode cX5_word 40 = .ok (.isub, 1) := by decide +kernel
theorem dX5_word_41 : decode cX5_word 41 = .ok (.i2l, 1) := by decide +kernel
theorem dX5_word_42 : decode cX5_word 42 = .ok (.ladd, 1) := by decide +kernel
theorem dX5_word_43 : decode cX5_word 43 = .ok (.lstore_n 1, 1) := by decide +kernel
theorem dX5_word_44 : decode cX5_word 44 = .ok (.iinc 3 1, 3) := by decide +kernel
theorem dX5_word_47 : decode cX5_word 47 = .ok (.goto (-40), 3) := by decide +kernel
theorem dX5_word_50 : decode cX5_word 50 = .ok (.aload_n 0, 1) := by decide +kernel
theorem dX5_word_51 : decode cX5_word 51 = .ok (.getfield 233, 3) := by decide +kernel
theorem dX5_word_54 : decode cX5_word 54 = .ok (.ifCond .ne 17, 3) := by decide +kernel
theorem dX5_word_57 : decode cX5_word 57 = .ok (.aload_n 0, 1) := by decide +kernel
theorem dX5_word_58 : decode cX5_word 58 = .ok (.aload_n 0, 1) := by decide +kernel
theorem dX5_word_59 : decode cX5_word 59 = .ok (.getfield 221, 3) := by decide +kernel
theorem dX5_word_62 : decode cX5_word 62 = .ok (.invokevirtual 224, 3) := by decide +kernel
theorem dX5_word_65 : decode cX5_word 65 = .ok (.invokestatic 227, 3) := by decide +kernel
theorem dX5_word_68 : decode cX5_word 68 = .ok (.ifCond .ne 7, 3) := by decide +kernel
theorem dX5_word_71 : decode cX5_word 71 = .ok (.lconst 0, 1) := by decide +kernel
theorem dX5_word_72 : decode cX5_word 72 = .ok (.goto 4, 3) := by decide +kernel
theorem dX5_word_75 : decode cX5_word 75 = .ok (.lload_n 1, 1) := by decide +kernel
theorem dX5_word_76 : decode cX5_word 76 = .ok (.lreturn, 1) := by decide +kernel
theorem dX5_number_0 : decode cX5_number 0 = .ok (.aload_n 0, 1) := by decide +kernel
theorem dX5_number_1 : decode cX5_number 1 = .ok (.getfield 233, 3) := by decide +kernel
theorem dX5_number_4 : decode cX5_number 4 = .ok (.ifCond .eq 4, 3) := by decide +kernel
theorem dX5_number_7 : decode cX5_number 7 = .ok (.return_, 1) := by decide +kernel
theorem dX5_number_8 : decode cX5_number 8 = .ok (.aload_n 0, 1) := by decide +kernel
theorem dX5_number_9 : decode cX5_number 9 = .ok (.aload_n 0, 1) := by decide +kernel
theorem dX5_number_10 : decode cX5_number 10 = .ok (.getfield 221, 3) := by decide +kernel
theorem dX5_number_13 : decode cX5_number 13 = .ok (.invokevirtual 224, 3) := by decide +kernel
theorem dX5_number_16 : decode cX5_number 16 = .ok (.invokestatic 230, 3) := by decide +kernel
theorem dX5_number_19 : decode cX5_number 19 = .ok (.istore_n 3, 1) := by decide +kernel
theorem dX5_number_20 : decode cX5_number 20 = .ok (.iconst 0, 1) := by decide +kernel
theorem dX5_number_21 : decode cX5_number 21 = .ok (.istore 4, 2) := by decide +kernel
theorem dX5_number_23 : decode cX5_number 23 = .ok (.aload_n 0, 1) := by decide +kernel
theorem dX5_number_24 : decode cX5_number 24 = .ok (.getfield 221, 3) := by decide +kernel
theorem dX5_number_27 : decode cX5_number 27 = .ok (.istore 5, 2) := by decide +kernel
theorem dX5_number_29 : decode cX5_number 29 = .ok (.iload 5, 2) := by decide +kernel
theorem dX5_number_31 : decode cX5_number 31 = .ok (.aload_n 0, 1) := by decide +kernel
theorem dX5_number_32 : decode cX5_number 32 = .ok (.getfield 218, 3) := by decide +kernel
theorem dX5_number_35 : decode cX5_number 35 = .ok (.if_icmp .ge 44, 3) := by decide +kernel
theorem dX5_number_38 : decode cX5_number 38 = .ok (.iload_n 3, 1) := by decide +kernel
theorem dX5_number_39 : decode cX5_number 39 = .ok (.ifCond .eq 40, 3) := by decide +kernel
theorem dX5_number_42 : decode cX5_number 42 = .ok (.iload 4, 2) := by decide +kernel
theorem dX5_number_44 : decode cX5_number 44 = .ok (.sipush 999, 3) := by decide +kernel
theorem dX5_number_47 : decode cX5_number 47 = .ok (.if_icmp .le 8, 3) := by decide +kernel
theorem dX5_number_50 : decode cX5_number 50 = .ok (.iload 4, 2) := by decide +kernel
theorem dX5_number_52 : decode cX5_number 52 = .ok (.goto 19, 3) := by decide +kernel
theorem dX5_number_55 : decode cX5_number 55 = .ok (.bipush 10, 2) := by decide +kernel
theorem dX5_number_57 : decode cX5_number 57 = .ok (.iload 4, 2) := by decide +kernel
theorem dX5_number_59 : decode cX5_number 59 = .ok (.imul, 1) := by decide +kernel
theorem dX5_number_60 : decode cX5_number 60 = .ok (.aload_n 0, 1) := by decide +kernel
theorem dX5_number_61 : decode cX5_number 61 = .ok (.getfield 34, 3) := by decide +kernel
theorem dX5_number_64 : decode cX5_number 64 = .ok (.iload 5, 2) := by decide +kernel
theorem dX5_number_66 : decode cX5_number 66 = .ok (.iaload, 1) := by decide +kernel
theorem dX5_number_67 : decode cX5_number 67 = .ok (.iadd, 1) := by decide +kernel
theorem dX5_number_68 : decode cX5_number 68 = .ok (.bipush 48, 2) := by decide +kernel
theorem dX5_number_70 : decode cX5_number 70 = .ok (.isub, 1) := by decide +kernel
theorem dX5_number_71 : decode cX5_number 71 = .ok (.istore 4, 2) := by decide +kernel
theorem dX5_number_73 : decode cX5_number 73 = .ok (.iinc 5 1, 3) := by decide +kernel
theorem dX5_number_76 : decode cX5_number 76 = .ok (.goto (-47), 3) := by decide +kernel
theorem dX5_number_79 : decode cX5_number 79 = .ok (.aload_n 0, 1) := by decide +kernel
theorem dX5_number_80 : decode cX5_number 80 = .ok (.iload 4, 2) := by decide +kernel
theorem dX5_number_82 : decode cX5_number 82 = .ok (.putfield 244, 3) := by decide +kernel
theorem dX5_number_85 : decode cX5_number 85 = .ok (.aload_n 0, 1) := by decide +kernel
theorem dX5_number_86 : decode cX5_number 86 = .ok (.iload_n 3, 1) := by decide +kernel
theorem dX5_number_87 : decode cX5_number 87 = .ok (.ifCond .eq 20, 3) := by decide +kernel
theorem dX5_number_90 : decode cX5_number 90 = .ok (.iload 4, 2) := by decide +kernel
theorem dX5_number_92 : decode cX5_number 92 = .ok (.i2l, 1) := by decide +kernel
theorem dX5_number_93 : decode cX5_number 93 = .ok (.iload_n 1, 1) := by decide +kernel
theorem dX5_number_94 : decode cX5_number 94 = .ok (.i2l, 1) := by decide +kernel
theorem dX5_number_95 : decode cX5_number 95 = .ok (.iload_n 2, 1) := by decide +kernel
theorem dX5_number_96 : decode cX5_number 96 = .ok (.i2l, 1) := by decide +kernel
theorem dX5_number_97 : decode cX5_number 97 = .ok (.invokestatic 53, 3) := by decide +kernel
theorem dX5_number_100 : decode cX5_number 100 = .ok (.ifCond .eq 7, 3) := by decide +kernel
theorem dX5_number_103 : decode cX5_number 103 = .ok (.iconst 1, 1) := by decide +kernel
theorem dX5_number_104 : decode cX5_number 104 = .ok (.goto 4, 3) := by decide +kernel
theorem dX5_number_107 : decode cX5_number 107 = .ok (.iconst 0, 1) := by decide +kernel
theorem dX5_number_108 : decode cX5_number 108 = .ok (.invokevirtual 247, 3) := by decide +kernel
theorem dX5_number_111 : decode cX5_number 111 = .ok (.return_, 1) := by decide +kernel
theorem dX5_kindHere_0 : decode cX5_kindHere 0 = .ok (.aload_n 0, 1) := by decide +kernel
theorem dX5_kindHere_1 : decode cX5_kindHere 1 = .ok (.invokevirtual 251, 3) := by decide +kernel
theorem dX5_kindHere_4 : decode cX5_kindHere 4 = .ok (.lstore_n 1, 1) := by decide +kernel
theorem dX5_kindHere_5 : decode cX5_kindHere 5 = .ok (.lload_n 1, 1) := by decide +kernel
theorem dX5_kindHere_6 : decode cX5_kindHere 6 = .ok (.ldc2_w 255, 3) := by decide +kernel
theorem dX5_kindHere_9 : decode cX5_kindHere 9 = .ok (.lcmp, 1) := by decide +kernel
theorem dX5_kindHere_10 : decode cX5_kindHere 10 = .ok (.ifCond .ne 7, 3) := by decide +kernel
theorem dX5_kindHere_13 : decode cX5_kindHere 13 = .ok (.iconst 0, 1) := by decide +kernel
theorem dX5_kindHere_14 : decode cX5_kindHere 14 = .ok (.goto 64, 3) := by decide +kernel
theorem dX5_kindHere_17 : decode cX5_kindHere 17 = .ok (.lload_n 1, 1) := by decide +kernel
theorem dX5_kindHere_18 : decode cX5_kindHere 18 = .ok (.ldc2_w 257, 3) := by decide +kernel
theorem dX5_kindHere_21 : decode cX5_kindHere 21 = .ok (.lcmp, 1) := by decide +kernel
theorem dX5_kindHere_22 : decode cX5_kindHere 22 = .ok (.ifCond .ne 7, 3) := by decide +kernel
theorem dX5_kindHere_25 : decode cX5_kindHere 25 = .ok (.iconst 1, 1) := by decide +kernel
theorem dX5_kindHere_26 : decode cX5_kindHere 26 = .ok (.goto 52, 3) := by decide +kernel
theorem dX5_kindHere_29 : decode cX5_kindHere 29 = .ok (.lload_n 1, 1) := by decide +kernel
theorem dX5_kindHere_30 : decode cX5_kindHere 30 = .ok (.ldc2_w 259, 3) := by decide +kernel
theorem dX5_kindHere_33 : decode cX5_kindHere 33 = .ok (.lcmp, 1) := by decide +kernel
theorem dX5_kindHere_34 : decode cX5_kindHere 34 = .ok (.ifCond .ne 7, 3) := by decide +kernel
theorem dX5_kindHere_37 : decode cX5_kindHere 37 = .ok (.iconst 2, 1) := by decide +kernel
theorem dX5_kindHere_38 : decode cX5_kindHere 38 = .ok (.goto 40, 3) := by decide +kernel
theorem dX5_kindHere_41 : decode cX5_kindHere 41 = .ok (.lload_n 1, 1) := by decide +kernel
theorem dX5_kindHere_42 : decode cX5_kindHere 42 = .ok (.ldc2_w 261, 3) := by decide +kernel
theorem dX5_kindHere_45 : decode cX5_kindHere 45 = .ok (.lcmp, 1) := by decide +kernel
theorem dX5_kindHere_46 : decode cX5_kindHere 46 = .ok (.ifCond .ne 7, 3) := by decide +kernel
theorem dX5_kindHere_49 : decode cX5_kindHere 49 = .ok (.iconst 3, 1) := by decide +kernel
theorem dX5_kindHere_50 : decode cX5_kindHere 50 = .ok (.goto 28, 3) := by decide +kernel
theorem dX5_kindHere_53 : decode cX5_kindHere 53 = .ok (.lload_n 1, 1) := by decide +kernel
theorem dX5_kindHere_54 : decode cX5_kindHere 54 = .ok (.ldc2_w 263, 3) := by decide +kernel
theorem dX5_kindHere_57 : decode cX5_kindHere 57 = .ok (.lcmp, 1) := by decide +kernel
theorem dX5_kindHere_58 : decode cX5_kindHere 58 = .ok (.ifCond .ne 7, 3) := by decide +kernel
theorem dX5_kindHere_61 : decode cX5_kindHere 61 = .ok (.iconst 4, 1) := by decide +kernel
theorem dX5_kindHere_62 : decode cX5_kindHere 62 = .ok (.goto 16, 3) := by decide +kernel
theorem dX5_kindHere_65 : decode cX5_kindHere 65 = .ok (.lload_n 1, 1) := by decide +kernel
theorem dX5_kindHere_66 : decode cX5_kindHere 66 = .ok (.ldc2_w 265, 3) := by decide +kernel
theorem dX5_kindHere_69 : decode cX5_kindHere 69 = .ok (.lcmp, 1) := by decide +kernel
theorem dX5_kindHere_70 : decode cX5_kindHere 70 = .ok (.ifCond .ne 7, 3) := by decide +kernel
theorem dX5_kindHere_73 : decode cX5_kindHere 73 = .ok (.iconst 5, 1) := by decide +kernel
theorem dX5_kindHere_74 : decode cX5_kindHere 74 = .ok (.goto 4, 3) := by decide +kernel
theorem dX5_kindHere_77 : decode cX5_kindHere 77 = .ok (.iconst (-1), 1) := by decide +kernel
theorem dX5_kindHere_78 : decode cX5_kindHere 78 = .ok (.ireturn, 1) := by decide +kernel
theorem dX5_rangeItem_0 : decode cX5_rangeItem 0 = .ok (.aload_n 0, 1) := by decide +kernel
theorem dX5_rangeItem_1 : decode cX5_rangeItem 1 = .ok (.aload_n 0, 1) := by decide +kernel
theorem dX5_rangeItem_2 : decode cX5_rangeItem 2 = .ok (.getfield 7, 3) := by decide +kernel
theorem dX5_rangeItem_5 : decode cX5_rangeItem 5 = .ok (.iconst 1, 1) := by decide +kernel
theorem dX5_rangeItem_6 : decode cX5_rangeItem 6 = .ok (.iaload, 1) := by decide +kernel
theorem dX5_rangeItem_7 : decode cX5_rangeItem 7 = .ok (.bipush 8, 2) := by decide +kernel
theorem dX5_rangeItem_9 : decode cX5_rangeItem 9 = .ok (.if_icmp .ge 7, 3) := by decide +kernel
theorem dX5_rangeItem_12 : decode cX5_rangeItem 12 = .ok (.iconst 1, 1) := by decide +kernel
theorem dX5_rangeItem_13 : decode cX5_rangeItem 13 = .ok (.goto 4, 3) := by decide +kernel
theorem dX5_rangeItem_16 : decode cX5_rangeItem 16 = .ok (.iconst 0, 1) := by decide +kernel
theorem dX5_rangeItem_17 : decode cX5_rangeItem 17 = .ok (.invokevirtual 247, 3) := by decide +kernel
theorem dX5_rangeItem_20 : decode cX5_rangeItem 20 = .ok (.aload_n 0, 1) := by decide +kernel
theorem dX5_rangeItem_21 : decode cX5_rangeItem 21 = .ok (.aload_n 0, 1) := by decide +kernel
theorem dX5_rangeItem_22 : decode cX5_rangeItem 22 = .ok (.invokevirtual 251, 3) := by decide +kernel
theorem dX5_rangeItem_25 : decode cX5_rangeItem 25 = .ok (.ldc2_w 267, 3) := by decide +kernel
theorem dX5_rangeItem_28 : decode cX5_rangeItem 28 = .ok (.lcmp, 1) := by decide +kernel
theorem dX5_rangeItem_29 : decode cX5_rangeItem 29 = .ok (.ifCond .ne 7, 3) := by decide +kernel
theorem dX5_rangeItem_32 : decode cX5_rangeItem 32 = .ok (.iconst 1, 1) := by decide +kernel
theorem dX5_rangeItem_33 : decode cX5_rangeItem 33 = .ok (.goto 4, 3) := by decide +kernel
theorem dX5_rangeItem_36 : decode cX5_rangeItem 36 = .ok (.iconst 0, 1) := by decide +kernel
theorem dX5_rangeItem_37 : decode cX5_rangeItem 37 = .ok (.invokevirtual 247, 3) := by decide +kernel
theorem dX5_rangeItem_40 : decode cX5_rangeItem 40 = .ok (.aload_n 0, 1) := by decide +kernel
theorem dX5_rangeItem_41 : decode cX5_rangeItem 41 = .ok (.getfield 221, 3) := by decide +kernel
theorem dX5_rangeItem_44 : decode cX5_rangeItem 44 = .ok (.istore_n 2, 1) := by decide +kernel
theorem dX5_rangeItem_45 : decode cX5_rangeItem 45 = .ok (.aload_n 0, 1) := by decide +kernel
theorem dX5_rangeItem_46 : decode cX5_rangeItem 46 = .ok (.iconst 0, 1) := by decide +kernel
theorem dX5_rangeItem_47 : decode cX5_rangeItem 47 = .ok (.bipush 23, 2) := by decide +kernel
theorem dX5_rangeItem_49 : decode cX5_rangeItem 49 = .ok (.invokevirtual 269, 3) := by decide +kernel
theorem dX5_rangeItem_52 : decode cX5_rangeItem 52 = .ok (.aload_n 0, 1) := by decide +kernel
theorem dX5_rangeItem_53 : decode cX5_rangeItem 53 = .ok (.getfield 244, 3) := by decide +kernel
theorem dX5_rangeItem_56 : decode cX5_rangeItem 56 = .ok (.istore_n 3, 1) := by decide +kernel
theorem dX5_rangeItem_57 : decode cX5_rangeItem 57 = .ok (.aload_n 0, 1) := by decide +kernel
theorem dX5_rangeItem_58 : decode cX5_rangeItem 58 = .ok (.getfield 233, 3) := by decide +kernel
theorem dX5_rangeItem_61 : decode cX5_rangeItem 61 = .ok (.ifCond .ne 21, 3) := by decide +kernel
theorem dX5_rangeItem_64 : decode cX5_rangeItem 64 = .ok (.aload_n 0, 1) := by decide +kernel
theorem dX5_rangeItem_65 : decode cX5_rangeItem 65 = .ok (.iload_n 3, 1) := by decide +kernel
theorem dX5_rangeItem_66 : decode cX5_rangeItem 66 = .ok (.invokevirtual 87, 3) := by decide +kernel
theorem dX5_rangeItem_69 : decode cX5_rangeItem 69 = .ok (.ifCond .lt 13, 3) := by decide +kernel
theorem dX5_rangeItem_72 : decode cX5_rangeItem 72 = .ok (.aload_n 0, 1) := by decide +kernel
theorem dX5_rangeItem_73 : decode cX5_rangeItem 73 = .ok (.iload_n 2, 1) := by decide +kernel
theorem dX5_rangeItem_74 : decode cX5_rangeItem 74 = .ok (.putfield 221, 3) := by decide +kernel
theorem dX5_rangeItem_77 : decode cX5_rangeItem 77 = .ok (.aload_n 0, 1) := by decide +kernel
theorem dX5_rangeItem_78 : decode cX5_rangeItem 78 = .ok (.iconst 1, 1) := by decide +kernel
theorem dX5_rangeItem_79 : decode cX5_rangeItem 79 = .ok (.putfield 233, 3) := by decide +kernel
theorem dX5_rangeItem_82 : decode cX5_rangeItem 82 = .ok (.iconst 0, 1) := by decide +kernel
theorem dX5_rangeItem_83 : decode cX5_rangeItem 83 = .ok (.istore 4, 2) := by decide +kernel
theorem dX5_rangeItem_85 : decode cX5_rangeItem 85 = .ok (.aload_n 0, 1) := by decide +kernel
theorem dX5_rangeItem_86 : decode cX5_rangeItem 86 = .ok (.invokevirtual 251, 3) := by decide +kernel
theorem dX5_rangeItem_89 : decode cX5_rangeItem 89 = .ok (.ldc2_w 273, 3) := by decide +kernel
theorem dX5_rangeItem_92 : decode cX5_rangeItem 92 = .ok (.lcmp, 1) := by decide +kernel
theorem dX5_rangeItem_93 : decode cX5_rangeItem 93 = .ok (.ifCond .ne 21, 3) := by decide +kernel
theorem dX5_rangeItem_96 : decode cX5_rangeItem 96 = .ok (.aload_n 0, 1) := by decide +kernel
theorem dX5_rangeItem_97 : decode cX5_rangeItem 97 = .ok (.iconst 1, 1) := by decide +kernel
theorem dX5_rangeItem_98 : decode cX5_rangeItem 98 = .ok (.invokevirtual 247, 3) := by decide +kernel
theorem dX5_rangeItem_101 : decode cX5_rangeItem 101 = .ok (.aload_n 0, 1) := by decide +kernel
theorem dX5_rangeItem_102 : decode cX5_rangeItem 102 = .ok (.iconst 0, 1) := by decide +kernel
theorem dX5_rangeItem_103 : decode cX5_rangeItem 103 = .ok (.bipush 9, 2) := by decide +kernel
theorem dX5_rangeItem_105 : decode cX5_rangeItem 105 = .ok (.invokevirtual 269, 3) := by decide +kernel
theorem dX5_rangeItem_108 : decode cX5_rangeItem 108 = .ok (.aload_n 0, 1) := by decide +kernel
theorem dX5_rangeItem_109 : decode cX5_rangeItem 109 = .ok (.getfield 244, 3) := by decide +kernel
theorem dX5_rangeItem_112 : decode cX5_rangeItem 112 = .ok (.istore 4, 2) := by decide +kernel
theorem dX5_rangeItem_114 : decode cX5_rangeItem 114 = .ok (.aload_n 0, 1) := by decide +kernel
theorem dX5_rangeItem_115 : decode cX5_rangeItem 115 = .ok (.getfield 233, 3) := by decide +kernel
theorem dX5_rangeItem_118 : decode cX5_rangeItem 118 = .ok (.ifCond .ne 20, 3) := by decide +kernel
theorem dX5_rangeItem_121 : decode cX5_rangeItem 121 = .ok (.aload_n 0, 1) := by decide +kernel
theorem dX5_rangeItem_122 : decode cX5_rangeItem 122 = .ok (.getfield 7, 3) := by decide +kernel
theorem dX5_rangeItem_125 : decode cX5_rangeItem 125 = .ok (.aload_n 0, 1) := by decide +kernel
theorem dX5_rangeItem_126 : decode cX5_rangeItem 126 = .ok (.iload_n 1, 1) := by decide +kernel
theorem dX5_rangeItem_127 : decode cX5_rangeItem 127 = .ok (.iload_n 3, 1) := by decide +kernel
theorem dX5_rangeItem_128 : decode cX5_rangeItem 128 = .ok (.invokevirtual 124, 3) := by decide +kernel
theorem dX5_rangeItem_131 : decode cX5_rangeItem 131 = .ok (.iconst 2, 1) := by decide +kernel
theorem dX5_rangeItem_132 : decode cX5_rangeItem 132 = .ok (.invokestatic 59, 3) := by decide +kernel
theorem dX5_rangeItem_135 : decode cX5_rangeItem 135 = .ok (.iload 4, 2) := by decide +kernel
theorem dX5_rangeItem_137 : decode cX5_rangeItem 137 = .ok (.iastore, 1) := by decide +kernel
theorem dX5_rangeItem_138 : decode cX5_rangeItem 138 = .ok (.return_, 1) := by decide +kernel
theorem dX5_passItem_0 : decode cX5_passItem 0 = .ok (.aload_n 0, 1) := by decide +kernel
theorem dX5_passItem_1 : decode cX5_passItem 1 = .ok (.iconst 1, 1) := by decide +kernel
theorem dX5_passItem_2 : decode cX5_passItem 2 = .ok (.invokevirtual 247, 3) := by decide +kernel
theorem dX5_passItem_5 : decode cX5_passItem 5 = .ok (.aload_n 0, 1) := by decide +kernel
theorem dX5_passItem_6 : decode cX5_passItem 6 = .ok (.iconst 0, 1) := by decide +kernel
theorem dX5_passItem_7 : decode cX5_passItem 7 = .ok (.bipush 23, 2) := by decide +kernel
theorem dX5_passItem_9 : decode cX5_passItem 9 = .ok (.invokevirtual 269, 3) := by decide +kernel
theorem dX5_passItem_12 : decode cX5_passItem 12 = .ok (.aload_n 0, 1) := by decide +kernel
theorem dX5_passItem_13 : decode cX5_passItem 13 = .ok (.getfield 244, 3) := by decide +kernel
theorem dX5_passItem_16 : decode cX5_passItem 16 = .ok (.istore_n 1, 1) := by decide +kernel
theorem dX5_passItem_17 : decode cX5_passItem 17 = .ok (.aload_n 0, 1) := by decide +kernel
theorem dX5_passItem_18 : decode cX5_passItem 18 = .ok (.iconst 2, 1) := by decide +kernel
theorem dX5_passItem_19 : decode cX5_passItem 19 = .ok (.bipush 9, 2) := by decide +kernel
theorem dX5_passItem_21 : decode cX5_passItem 21 = .ok (.invokevirtual 269, 3) := by decide +kernel
theorem dX5_passItem_24 : decode cX5_passItem 24 = .ok (.aload_n 0, 1) := by decide +kernel
theorem dX5_passItem_25 : decode cX5_passItem 25 = .ok (.getfield 244, 3) := by decide +kernel
theorem dX5_passItem_28 : decode cX5_passItem 28 = .ok (.istore_n 2, 1) := by decide +kernel
theorem dX5_passItem_29 : decode cX5_passItem 29 = .ok (.aload_n 0, 1) := by decide +kernel
theorem dX5_passItem_30 : decode cX5_passItem 30 = .ok (.iconst 0, 1) := by decide +kernel
theorem dX5_passItem_31 : decode cX5_passItem 31 = .ok (.iload_n 2, 1) := by decide +kernel
theorem dX5_passItem_32 : decode cX5_passItem 32 = .ok (.invokevirtual 269, 3) := by decide +kernel
theorem dX5_passItem_35 : decode cX5_passItem 35 = .ok (.aload_n 0, 1) := by decide +kernel
theorem dX5_passItem_36 : decode cX5_passItem 36 = .ok (.getfield 233, 3) := by decide +kernel
theorem dX5_passItem_39 : decode cX5_passItem 39 = .ok (.ifCond .ne 13, 3) := by decide +kernel
theorem dX5_passItem_42 : decode cX5_passItem 42 = .ok (.aload_n 0, 1) := by decide +kernel
theorem dX5_passItem_43 : decode cX5_passItem 43 = .ok (.iload_n 1, 1) := by decide +kernel
theorem dX5_passItem_44 : decode cX5_passItem 44 = .ok (.iload_n 2, 1) := by decide +kernel
theorem dX5_passItem_45 : decode cX5_passItem 45 = .ok (.aload_n 0, 1) := by decide +kernel
theorem dX5_passItem_46 : decode cX5_passItem 46 = .ok (.getfield 244, 3) := by decide +kernel
theorem dX5_passItem_49 : decode cX5_passItem 49 = .ok (.invokevirtual 78, 3) := by decide +kernel
theorem dX5_passItem_52 : decode cX5_passItem 52 = .ok (.return_, 1) := by decide +kernel
theorem dX5_villageItem_0 : decode cX5_villageItem 0 = .ok (.aload_n 0, 1) := by decide +kernel
theorem dX5_villageItem_1 : decode cX5_villageItem 1 = .ok (.aload_n 0, 1) := by decide +kernel
theorem dX5_villageItem_2 : decode cX5_villageItem 2 = .ok (.getfield 7, 3) := by decide +kernel
theorem dX5_villageItem_5 : decode cX5_villageItem 5 = .ok (.iconst 2, 1) := by decide +kernel
theorem dX5_villageItem_6 : decode cX5_villageItem 6 = .ok (.iaload, 1) := by decide +kernel
theorem dX5_villageItem_7 : decode cX5_villageItem 7 = .ok (.bipush 6, 2) := by decide +kernel
theorem dX5_villageItem_9 : decode cX5_villageItem 9 = .ok (.if_icmp .ge 7, 3) := by decide +kernel
theorem dX5_villageItem_12 : decode cX5_villageItem 12 = .ok (.iconst 1, 1) := by decide +kernel
theorem dX5_villageItem_13 : decode cX5_villageItem 13 = .ok (.goto 4, 3) := by decide +kernel
theorem dX5_villageItem_16 : decode cX5_villageItem 16 = .ok (.iconst 0, 1) := by decide +kernel
theorem dX5_villageItem_17 : decode cX5_villageItem 17 = .ok (.invokevirtual 247, 3) := by decide +kernel
theorem dX5_villageItem_20 : decode cX5_villageItem 20 = .ok (.aload_n 0, 1) := by decide +kernel
theorem dX5_villageItem_21 : decode cX5_villageItem 21 = .ok (.iconst 0, 1) := by decide +kernel
theorem dX5_villageItem_22 : decode cX5_villageItem 22 = .ok (.bipush 23, 2) := by decide +kernel
theorem dX5_villageItem_24 : decode cX5_villageItem 24 = .ok (.invokevirtual 269, 3) := by decide +kernel
theorem dX5_villageItem_27 : decode cX5_villageItem 27 = .ok (.aload_n 0, 1) := by decide +kernel
theorem dX5_villageItem_28 : decode cX5_villageItem 28 = .ok (.getfield 233, 3) := by decide +kernel
theorem dX5_villageItem_31 : decode cX5_villageItem 31 = .ok (.ifCond .ne 31, 3) := by decide +kernel
theorem dX5_villageItem_34 : decode cX5_villageItem 34 = .ok (.aload_n 0, 1) := by decide +kernel
theorem dX5_villageItem_35 : decode cX5_villageItem 35 = .ok (.getfield 7, 3) := by decide +kernel
theorem dX5_villageItem_38 : decode cX5_villageItem 38 = .ok (.bipush 55, 2) := by decide +kernel
theorem dX5_villageItem_40 : decode cX5_villageItem 40 = .ok (.aload_n 0, 1) := by decide +kernel
theorem dX5_villageItem_41 : decode cX5_villageItem 41 = .ok (.getfield 7, 3) := by decide +kernel
theorem dX5_villageItem_44 : decode cX5_villageItem 44 = .ok (.iconst 2, 1) := by decide +kernel
theorem dX5_villageItem_45 : decode cX5_villageItem 45 = .ok (.iaload, 1) := by decide +kernel
theorem dX5_villageItem_46 : decode cX5_villageItem 46 = .ok (.iadd, 1) := by decide +kernel
theorem dX5_villageItem_47 : decode cX5_villageItem 47 = .ok (.aload_n 0, 1) := by decide +kernel
theorem dX5_villageItem_48 : decode cX5_villageItem 48 = .ok (.getfield 244, 3) := by decide +kernel
theorem dX5_villageItem_51 : decode cX5_villageItem 51 = .ok (.iastore, 1) := by decide +kernel
theorem dX5_villageItem_52 : decode cX5_villageItem 52 = .ok (.aload_n 0, 1) := by decide +kernel
theorem dX5_villageItem_53 : decode cX5_villageItem 53 = .ok (.getfield 7, 3) := by decide +kernel
theorem dX5_villageItem_56 : decode cX5_villageItem 56 = .ok (.iconst 2, 1) := by decide +kernel
theorem dX5_villageItem_57 : decode cX5_villageItem 57 = .ok (.dup2, 1) := by decide +kernel
theorem dX5_villageItem_58 : decode cX5_villageItem 58 = .ok (.iaload, 1) := by decide +kernel
theorem dX5_villageItem_59 : decode cX5_villageItem 59 = .ok (.iconst 1, 1) := by decide +kernel
theorem dX5_villageItem_60 : decode cX5_villageItem 60 = .ok (.iadd, 1) := by decide +kernel
theorem dX5_villageItem_61 : decode cX5_villageItem 61 = .ok (.iastore, 1) := by decide +kernel
theorem dX5_villageItem_62 : decode cX5_villageItem 62 = .ok (.return_, 1) := by decide +kernel
theorem dX5_orderTold_0 : decode cX5_orderTold 0 = .ok (.aload_n 0, 1) := by decide +kernel
theorem dX5_orderTold_1 : decode cX5_orderTold 1 = .ok (.iconst 0, 1) := by decide +kernel
theorem dX5_orderTold_2 : decode cX5_orderTold 2 = .ok (.iconst 3, 1) := by decide +kernel
theorem dX5_orderTold_3 : decode cX5_orderTold 3 = .ok (.invokevirtual 269, 3) := by decide +kernel
theorem dX5_orderTold_6 : decode cX5_orderTold 6 = .ok (.aload_n 0, 1) := by decide +kernel
theorem dX5_orderTold_7 : decode cX5_orderTold 7 = .ok (.getfield 244, 3) := by decide +kernel
theorem dX5_orderTold_10 : decode cX5_orderTold 10 = .ok (.istore_n 1, 1) := by decide +kernel
theorem dX5_orderTold_11 : decode cX5_orderTold 11 = .ok (.aload_n 0, 1) := by decide +kernel
theorem dX5_orderTold_12 : decode cX5_orderTold 12 = .ok (.invokevirtual 251, 3) := by decide +kernel
theorem dX5_orderTold_15 : decode cX5_orderTold 15 = .ok (.ldc2_w 275, 3) := by decide +kernel
theorem dX5_orderTold_18 : decode cX5_orderTold 18 = .ok (.lcmp, 1) := by decide +kernel
theorem dX5_orderTold_19 : decode cX5_orderTold 19 = .ok (.ifCond .ne 7, 3) := by decide +kernel
theorem dX5_orderTold_22 : decode cX5_orderTold 22 = .ok (.iconst 1, 1) := by decide +kernel
theorem dX5_orderTold_23 : decode cX5_orderTold 23 = .ok (.goto 4, 3) := by decide +kernel
theorem dX5_orderTold_26 : decode cX5_orderTold 26 = .ok (.iconst 0, 1) := by decide +kernel
theorem dX5_orderTold_27 : decode cX5_orderTold 27 = .ok (.istore_n 2, 1) := by decide +kernel
theorem dX5_orderTold_28 : decode cX5_orderTold 28 = .ok (.iload_n 2, 1) := by decide +kernel
theorem dX5_orderTold_29 : decode cX5_orderTold 29 = .ok (.ifCond .eq 8, 3) := by decide +kernel
theorem dX5_orderTold_32 : decode cX5_orderTold 32 = .ok (.aload_n 0, 1) := by decide +kernel
theorem dX5_orderTold_33 : decode cX5_orderTold 33 = .ok (.iconst 1, 1) := by decide +kernel
theorem dX5_orderTold_34 : decode cX5_orderTold 34 = .ok (.invokevirtual 247, 3) := by decide +kernel
theorem dX5_orderTold_37 : decode cX5_orderTold 37 = .ok (.aload_n 0, 1) := by decide +kernel
theorem dX5_orderTold_38 : decode cX5_orderTold 38 = .ok (.iconst 0, 1) := by decide +kernel
theorem dX5_orderTold_39 : decode cX5_orderTold 39 = .ok (.bipush 9, 2) := by decide +kernel
theorem dX5_orderTold_41 : decode cX5_orderTold 41 = .ok (.invokevirtual 269, 3) := by decide +kernel
theorem dX5_orderTold_44 : decode cX5_orderTold 44 = .ok (.aload_n 0, 1) := by decide +kernel
theorem dX5_orderTold_45 : decode cX5_orderTold 45 = .ok (.getfield 233, 3) := by decide +kernel
theorem dX5_orderTold_48 : decode cX5_orderTold 48 = .ok (.ifCond .ne 27, 3) := by decide +kernel
theorem dX5_orderTold_51 : decode cX5_orderTold 51 = .ok (.aload_n 0, 1) := by decide +kernel
theorem dX5_orderTold_52 : decode cX5_orderTold 52 = .ok (.getfield 7, 3) := by decide +kernel
theorem dX5_orderTold_55 : decode cX5_orderTold 55 = .ok (.iconst 3, 1) := by decide +kernel
theorem dX5_orderTold_56 : decode cX5_orderTold 56 = .ok (.iload_n 1, 1) := by decide +kernel
theorem dX5_orderTold_57 : decode cX5_orderTold 57 = .ok (.iadd, 1) := by decide +kernel
theorem dX5_orderTold_58 : decode cX5_orderTold 58 = .ok (.iload_n 2, 1) := by decide +kernel
theorem dX5_orderTold_59 : decode cX5_orderTold 59 = .ok (.ifCond .eq 11, 3) := by decide +kernel
theorem dX5_orderTold_62 : decode cX5_orderTold 62 = .ok (.aload_n 0, 1) := by decide +kernel
theorem dX5_orderTold_63 : decode cX5_orderTold 63 = .ok (.getfield 244, 3) := by decide +kernel
theorem dX5_orderTold_66 : decode cX5_orderTold 66 = .ok (.ineg, 1) := by decide +kernel
theorem dX5_orderTold_67 : decode cX5_orderTold 67 = .ok (.goto 7, 3) := by decide +kernel
theorem dX5_orderTold_70 : decode cX5_orderTold 70 = .ok (.aload_n 0, 1) := by decide +kernel
theorem dX5_orderTold_71 : decode cX5_orderTold 71 = .ok (.getfield 244, 3) := by decide +kernel
theorem dX5_orderTold_74 : decode cX5_orderTold 74 = .ok (.iastore, 1) := by decide +kernel
theorem dX5_orderTold_75 : decode cX5_orderTold 75 = .ok (.return_, 1) := by decide +kernel
theorem dX5_freeItem_0 : decode cX5_freeItem 0 = .ok (.aload_n 0, 1) := by decide +kernel
theorem dX5_freeItem_1 : decode cX5_freeItem 1 = .ok (.iconst 1, 1) := by decide +kernel
theorem dX5_freeItem_2 : decode cX5_freeItem 2 = .ok (.invokevirtual 247, 3) := by decide +kernel
theorem dX5_freeItem_5 : decode cX5_freeItem 5 = .ok (.aload_n 0, 1) := by decide +kernel
theorem dX5_freeItem_6 : decode cX5_freeItem 6 = .ok (.iconst 0, 1) := by decide +kernel
theorem dX5_freeItem_7 : decode cX5_freeItem 7 = .ok (.bipush 23, 2) := by decide +kernel
theorem dX5_freeItem_9 : decode cX5_freeItem 9 = .ok (.invokevirtual 269, 3) := by decide +kernel
theorem dX5_freeItem_12 : decode cX5_freeItem 12 = .ok (.aload_n 0, 1) := by decide +kernel
theorem dX5_freeItem_13 : decode cX5_freeItem 13 = .ok (.getfield 233, 3) := by decide +kernel
theorem dX5_freeItem_16 : decode cX5_freeItem 16 = .ok (.ifCond .ne 13, 3) := by decide +kernel
theorem dX5_freeItem_19 : decode cX5_freeItem 19 = .ok (.aload_n 0, 1) := by decide +kernel
theorem dX5_freeItem_20 : decode cX5_freeItem 20 = .ok (.aload_n 0, 1) := by decide +kernel
theorem dX5_freeItem_21 : decode cX5_freeItem 21 = .ok (.getfield 244, 3) := by decide +kernel
theorem dX5_freeItem_24 : decode cX5_freeItem 24 = .ok (.iconst 0, 1) := by decide +kernel
theorem dX5_freeItem_25 : decode cX5_freeItem 25 = .ok (.iconst 0, 1) := by decide +kernel
theorem dX5_freeItem_26 : decode cX5_freeItem 26 = .ok (.invokevirtual 78, 3) := by decide +kernel
theorem dX5_freeItem_29 : decode cX5_freeItem 29 = .ok (.return_, 1) := by decide +kernel
theorem dX5_item_0 : decode cX5_item 0 = .ok (.aload_n 0, 1) := by decide +kernel
theorem dX5_item_1 : decode cX5_item 1 = .ok (.invokevirtual 277, 3) := by decide +kernel
theorem dX5_item_4 : decode cX5_item 4 = .ok (.istore_n 1, 1) := by decide +kernel
theorem dX5_item_5 : decode cX5_item 5 = .ok (.aload_n 0, 1) := by decide +kernel
theorem dX5_item_6 : decode cX5_item 6 = .ok (.invokevirtual 251, 3) := by decide +kernel
theorem dX5_item_9 : decode cX5_item 9 = .ok (.lstore_n 2, 1) := by decide +kernel
theorem dX5_item_10 : decode cX5_item 10 = .ok (.iload_n 1, 1) := by decide +kernel
theorem dX5_item_11 : decode cX5_item 11 = .ok (.ifCond .lt 11, 3) := by decide +kernel
theorem dX5_item_14 : decode cX5_item 14 = .ok (.aload_n 0, 1) := by decide +kernel
theorem dX5_item_15 : decode cX5_item 15 = .ok (.iload_n 1, 1) := by decide +kernel
theorem dX5_item_16 : decode cX5_item 16 = .ok (.invokevirtual 280, 3) := by decide +kernel
theorem dX5_item_19 : decode cX5_item 19 = .ok (.goto 76, 3) := by decide +kernel
theorem dX5_item_22 : decode cX5_item 22 = .ok (.lload_n 2, 1) := by decide +kernel
theorem dX5_item_23 : decode cX5_item 23 = .ok (.ldc2_w 283, 3) := by decide +kernel
theorem dX5_item_26 : decode cX5_item 26 = .ok (.lcmp, 1) := by decide +kernel
theorem dX5_item_27 : decode cX5_item 27 = .ok (.ifCond .ne 10, 3) := by decide +kernel
theorem dX5_item_30 : decode cX5_item 30 = .ok (.aload_n 0, 1) := by decide +kernel
theorem dX5_item_31 : decode cX5_item 31 = .ok (.invokevirtual 285, 3) := by decide +kernel
theorem dX5_item_34 : decode cX5_item 34 = .ok (.goto 61, 3) := by decide +kernel
theorem dX5_item_37 : decode cX5_item 37 = .ok (.lload_n 2, 1) := by decide +kernel
theorem dX5_item_38 : decode cX5_item 38 = .ok (.ldc2_w 288, 3) := by decide +kernel
theorem dX5_item_41 : decode cX5_item 41 = .ok (.lcmp, 1) := by decide +kernel
theorem dX5_item_42 : decode cX5_item 42 = .ok (.ifCond .ne 10, 3) := by decide +kernel
theorem dX5_item_45 : decode cX5_item 45 = .ok (.aload_n 0, 1) := by decide +kernel
theorem dX5_item_46 : decode cX5_item 46 = .ok (.invokevirtual 290, 3) := by decide +kernel
theorem dX5_item_49 : decode cX5_item 49 = .ok (.goto 46, 3) := by decide +kernel
theorem dX5_item_52 : decode cX5_item 52 = .ok (.lload_n 2, 1) := by decide +kernel
theorem dX5_item_53 : decode cX5_item 53 = .ok (.ldc2_w 293, 3) := by decide +kernel
theorem dX5_item_56 : decode cX5_item 56 = .ok (.lcmp, 1) := by decide +kernel
theorem dX5_item_57 : decode cX5_item 57 = .ok (.ifCond .ne 10, 3) := by decide +kernel
theorem dX5_item_60 : decode cX5_item 60 = .ok (.aload_n 0, 1) := by decide +kernel
theorem dX5_item_61 : decode cX5_item 61 = .ok (.invokevirtual 295, 3) := by decide +kernel
theorem dX5_item_64 : decode cX5_item 64 = .ok (.goto 31, 3) := by decide +kernel
theorem dX5_item_67 : decode cX5_item 67 = .ok (.aload_n 0, 1) := by decide +kernel
theorem dX5_item_68 : decode cX5_item 68 = .ok (.lload_n 2, 1) := by decide +kernel
theorem dX5_item_69 : decode cX5_item 69 = .ok (.ldc2_w 298, 3) := by decide +kernel
theorem dX5_item_72 : decode cX5_item 72 = .ok (.lcmp, 1) := by decide +kernel
theorem dX5_item_73 : decode cX5_item 73 = .ok (.ifCond .ne 7, 3) := by decide +kernel
theorem dX5_item_76 : decode cX5_item 76 = .ok (.iconst 1, 1) := by decide +kernel
theorem dX5_item_77 : decode cX5_item 77 = .ok (.goto 4, 3) := by decide +kernel
theorem dX5_item_80 : decode cX5_item 80 = .ok (.iconst 0, 1) := by decide +kernel
theorem dX5_item_81 : decode cX5_item 81 = .ok (.invokevirtual 247, 3) := by decide +kernel
theorem dX5_item_84 : decode cX5_item 84 = .ok (.aload_n 0, 1) := by decide +kernel
theorem dX5_item_85 : decode cX5_item 85 = .ok (.getfield 233, 3) := by decide +kernel
theorem dX5_item_88 : decode cX5_item 88 = .ok (.ifCond .ne 7, 3) := by decide +kernel
theorem dX5_item_91 : decode cX5_item 91 = .ok (.aload_n 0, 1) := by decide +kernel
theorem dX5_item_92 : decode cX5_item 92 = .ok (.invokevirtual 300, 3) := by decide +kernel
theorem dX5_item_95 : decode cX5_item 95 = .ok (.return_, 1) := by decide +kernel
theorem dX5_land_0 : decode cX5_land 0 = .ok (.aload_n 0, 1) := by decide +kernel
theorem dX5_land_1 : decode cX5_land 1 = .ok (.invokevirtual 303, 3) := by decide +kernel
theorem dX5_land_4 : decode cX5_land 4 = .ok (.aload_n 0, 1) := by decide +kernel
theorem dX5_land_5 : decode cX5_land 5 = .ok (.iconst 0, 1) := by decide +kernel
theorem dX5_land_6 : decode cX5_land 6 = .ok (.putfield 233, 3) := by decide +kernel
theorem dX5_land_9 : decode cX5_land 9 = .ok (.aload_n 0, 1) := by decide +kernel
theorem dX5_land_10 : decode cX5_land 10 = .ok (.iconst 0, 1) := by decide +kernel
theorem dX5_land_11 : decode cX5_land 11 = .ok (.putfield 218, 3) := by decide +kernel
theorem dX5_land_14 : decode cX5_land 14 = .ok (.aload_n 0, 1) := by decide +kernel
theorem dX5_land_15 : decode cX5_land 15 = .ok (.invokevirtual 237, 3) := by decide +kernel
theorem dX5_land_18 : decode cX5_land 18 = .ok (.iconst 1, 1) := by decide +kernel
theorem dX5_land_19 : decode cX5_land 19 = .ok (.istore_n 1, 1) := by decide +kernel
theorem dX5_land_20 : decode cX5_land 20 = .ok (.aload_n 0, 1) := by decide +kernel
theorem dX5_land_21 : decode cX5_land 21 = .ok (.invokevirtual 306, 3) := by decide +kernel
theorem dX5_land_24 : decode cX5_land 24 = .ok (.aload_n 0, 1) := by decide +kernel
theorem dX5_land_25 : decode cX5_land 25 = .ok (.getfield 233, 3) := by decide +kernel
theorem dX5_land_28 : decode cX5_land 28 = .ok (.ifCond .ne 31, 3) := by decide +kernel
theorem dX5_land_31 : decode cX5_land 31 = .ok (.aload_n 0, 1) := by decide +kernel
theorem dX5_land_32 : decode cX5_land 32 = .ok (.aload_n 0, 1) := by decide +kernel
theorem dX5_land_33 : decode cX5_land 33 = .ok (.getfield 221, 3) := by decide +kernel
theorem dX5_land_36 : decode cX5_land 36 = .ok (.invokevirtual 224, 3) := by decide +kernel
theorem dX5_land_39 : decode cX5_land 39 = .ok (.bipush 59, 2) := by decide +kernel
theorem dX5_land_41 : decode cX5_land 41 = .ok (.if_icmp .ne 18, 3) := by decide +kernel
theorem dX5_land_44 : decode cX5_land 44 = .ok (.aload_n 0, 1) := by decide +kernel
theorem dX5_land_45 : decode cX5_land 45 = .ok (.iconst 1, 1) := by decide +kernel
theorem dX5_land_46 : decode cX5_land 46 = .ok (.invokevirtual 247, 3) := by decide +kernel
theorem dX5_land_49 : decode cX5_land 49 = .ok (.aload_n 0, 1) := by decide +kernel
theorem dX5_land_50 : decode cX5_land 50 = .ok (.invokevirtual 306, 3) := by decide +kernel
theorem dX5_land_53 : decode cX5_land 53 = .ok (.iinc 1 1, 3) := by decide +kernel
theorem dX5_land_56 : decode cX5_land 56 = .ok (.goto (-32), 3) := by decide +kernel
theorem dX5_land_59 : decode cX5_land 59 = .ok (.aload_n 0, 1) := by decide +kernel
theorem dX5_land_60 : decode cX5_land 60 = .ok (.aload_n 0, 1) := by decide +kernel
theorem dX5_land_61 : decode cX5_land 61 = .ok (.getfield 233, 3) := by decide +kernel
theorem dX5_land_64 : decode cX5_land 64 = .ok (.ifCond .ne 14, 3) := by decide +kernel
theorem dX5_land_67 : decode cX5_land 67 = .ok (.aload_n 0, 1) := by decide +kernel
theorem dX5_land_68 : decode cX5_land 68 = .ok (.getfield 221, 3) := by decide +kernel
theorem dX5_land_71 : decode cX5_land 71 = .ok (.aload_n 0, 1) := by decide +kernel
theorem dX5_land_72 : decode cX5_land 72 = .ok (.getfield 206, 3) := by decide +kernel
theorem dX5_land_75 : decode cX5_land 75 = .ok (.if_icmp .ge 7, 3) := by decide +kernel
theorem dX5_land_78 : decode cX5_land 78 = .ok (.iconst 1, 1) := by decide +kernel
theorem dX5_land_79 : decode cX5_land 79 = .ok (.goto 4, 3) := by decide +kernel
theorem dX5_land_82 : decode cX5_land 82 = .ok (.iconst 0, 1) := by decide +kernel
theorem dX5_land_83 : decode cX5_land 83 = .ok (.putfield 233, 3) := by decide +kernel
theorem dX5_land_86 : decode cX5_land 86 = .ok (.aload_n 0, 1) := by decide +kernel
theorem dX5_land_87 : decode cX5_land 87 = .ok (.getfield 233, 3) := by decide +kernel
theorem dX5_land_90 : decode cX5_land 90 = .ok (.ifCond .eq 7, 3) := by decide +kernel
theorem dX5_land_93 : decode cX5_land 93 = .ok (.aload_n 0, 1) := by decide +kernel
theorem dX5_land_94 : decode cX5_land 94 = .ok (.invokevirtual 309, 3) := by decide +kernel
theorem dX5_land_97 : decode cX5_land 97 = .ok (.aload_n 0, 1) := by decide +kernel
theorem dX5_land_98 : decode cX5_land 98 = .ok (.iconst 0, 1) := by decide +kernel
theorem dX5_land_99 : decode cX5_land 99 = .ok (.putfield 206, 3) := by decide +kernel
theorem dX5_land_102 : decode cX5_land 102 = .ok (.aload_n 0, 1) := by decide +kernel
theorem dX5_land_103 : decode cX5_land 103 = .ok (.getfield 233, 3) := by decide +kernel
theorem dX5_land_106 : decode cX5_land 106 = .ok (.ifCond .eq 12, 3) := by decide +kernel
theorem dX5_land_109 : decode cX5_land 109 = .ok (.iconst (-1), 1) := by decide +kernel
theorem dX5_land_110 : decode cX5_land 110 = .ok (.aload_n 0, 1) := by decide +kernel
theorem dX5_land_111 : decode cX5_land 111 = .ok (.getfield 221, 3) := by decide +kernel
theorem dX5_land_114 : decode cX5_land 114 = .ok (.isub, 1) := by decide +kernel
theorem dX5_land_115 : decode cX5_land 115 = .ok (.goto 4, 3) := by decide +kernel
theorem dX5_land_118 : decode cX5_land 118 = .ok (.iload_n 1, 1) := by decide +kernel
theorem dX5_land_119 : decode cX5_land 119 = .ok (.ireturn, 1) := by decide +kernel
theorem dX5_isOne_0 : decode cX5_isOne 0 = .ok (.iload_n 0, 1) := by decide +kernel
theorem dX5_isOne_1 : decode cX5_isOne 1 = .ok (.i2l, 1) := by decide +kernel
theorem dX5_isOne_2 : decode cX5_isOne 2 = .ok (.lconst 0, 1) := by decide +kernel
theorem dX5_isOne_3 : decode cX5_isOne 3 = .ok (.ldc2_w 82, 3) := by decide +kernel
theorem dX5_isOne_6 : decode cX5_isOne 6 = .ok (.invokestatic 53, 3) := by decide +kernel
theorem dX5_isOne_9 : decode cX5_isOne 9 = .ok (.ireturn, 1) := by decide +kernel
theorem dX5_sheet_0 : decode cX5_sheet 0 = .ok (.iload_n 1, 1) := by decide +kernel
theorem dX5_sheet_1 : decode cX5_sheet 1 = .ok (.invokestatic 312, 3) := by decide +kernel
theorem dX5_sheet_4 : decode cX5_sheet 4 = .ok (.ifCond .eq 25, 3) := by decide +kernel
theorem dX5_sheet_7 : decode cX5_sheet 7 = .ok (.iload_n 2, 1) := by decide +kernel
theorem dX5_sheet_8 : decode cX5_sheet 8 = .ok (.ifCond .eq 28, 3) := by decide +kernel
theorem dX5_sheet_11 : decode cX5_sheet 11 = .ok (.iload_n 2, 1) := by decide +kernel
theorem dX5_sheet_12 : decode cX5_sheet 12 = .ok (.bipush 8, 2) := by decide +kernel
theorem dX5_sheet_14 : decode cX5_sheet 14 = .ok (.if_icmp .eq 22, 3) := by decide +kernel
theorem dX5_sheet_17 : decode cX5_sheet 17 = .ok (.iload_n 2, 1) := by decide +kernel
theorem dX5_sheet_18 : decode cX5_sheet 18 = .ok (.bipush 16, 2) := by decide +kernel
theorem dX5_sheet_20 : decode cX5_sheet 20 = .ok (.if_icmp .eq 16, 3) := by decide +kernel
theorem dX5_sheet_23 : decode cX5_sheet 23 = .ok (.iload_n 2, 1) := by decide +kernel
theorem dX5_sheet_24 : decode cX5_sheet 24 = .ok (.bipush 64, 2) := by decide +kernel
theorem dX5_sheet_26 : decode cX5_sheet 26 = .ok (.if_icmp .eq 10, 3) := by decide +kernel
theorem dX5_sheet_29 : decode cX5_sheet 29 = .ok (.aload_n 0, 1) := by decide +kernel
theorem dX5_sheet_30 : decode cX5_sheet 30 = .ok (.ldc 50, 2) := by decide +kernel
theorem dX5_sheet_32 : decode cX5_sheet 32 = .ok (.invokevirtual 74, 3) := by decide +kernel
theorem dX5_sheet_35 : decode cX5_sheet 35 = .ok (.ireturn, 1) := by decide +kernel
theorem dX5_sheet_36 : decode cX5_sheet 36 = .ok (.iload_n 3, 1) := by decide +kernel
theorem dX5_sheet_37 : decode cX5_sheet 37 = .ok (.ifCond .ge 11, 3) := by decide +kernel
theorem dX5_sheet_40 : decode cX5_sheet 40 = .ok (.aload_n 0, 1) := by decide +kernel
theorem dX5_sheet_41 : decode cX5_sheet 41 = .ok (.ldc_w 315, 3) := by decide +kernel
theorem dX5_sheet_44 : decode cX5_sheet 44 = .ok (.invokevirtual 74, 3) := by decide +kernel
theorem dX5_sheet_47 : decode cX5_sheet 47 = .ok (.ireturn, 1) := by decide +kernel
theorem dX5_sheet_48 : decode cX5_sheet 48 = .ok (.iload_n 3, 1) := by decide +kernel
theorem dX5_sheet_49 : decode cX5_sheet 49 = .ok (.bipush 40, 2) := by decide +kernel
theorem dX5_sheet_51 : decode cX5_sheet 51 = .ok (.if_icmp .le 10, 3) := by decide +kernel
theorem dX5_sheet_54 : decode cX5_sheet 54 = .ok (.aload_n 0, 1) := by decide +kernel
theorem dX5_sheet_55 : decode cX5_sheet 55 = .ok (.ldc 50, 2) := by decide +kernel
theorem dX5_sheet_57 : decode cX5_sheet 57 = .ok (.invokevirtual 74, 3) := by decide +kernel
theorem dX5_sheet_60 : decode cX5_sheet 60 = .ok (.ireturn, 1) := by decide +kernel
theorem dX5_sheet_61 : decode cX5_sheet 61 = .ok (.aload_n 0, 1) := by decide +kernel
theorem dX5_sheet_62 : decode cX5_sheet 62 = .ok (.getfield 37, 3) := by decide +kernel
theorem dX5_sheet_65 : decode cX5_sheet 65 = .ok (.iload_n 1, 1) := by decide +kernel
theorem dX5_sheet_66 : decode cX5_sheet 66 = .ok (.iload_n 2, 1) := by decide +kernel
theorem dX5_sheet_67 : decode cX5_sheet 67 = .ok (.iastore, 1) := by decide +kernel
theorem dX5_sheet_68 : decode cX5_sheet 68 = .ok (.aload_n 0, 1) := by decide +kernel
theorem dX5_sheet_69 : decode cX5_sheet 69 = .ok (.getfield 40, 3) := by decide +kernel
theorem dX5_sheet_72 : decode cX5_sheet 72 = .ok (.iload_n 1, 1) := by decide +kernel
theorem dX5_sheet_73 : decode cX5_sheet 73 = .ok (.iload_n 2, 1) := by decide +kernel
theorem dX5_sheet_74 : decode cX5_sheet 74 = .ok (.ifCond .ne 7, 3) := by decide +kernel
theorem dX5_sheet_77 : decode cX5_sheet 77 = .ok (.iconst 0, 1) := by decide +kernel
theorem dX5_sheet_78 : decode cX5_sheet 78 = .ok (.goto 4, 3) := by decide +kernel
theorem dX5_sheet_81 : decode cX5_sheet 81 = .ok (.iload_n 3, 1) := by decide +kernel
theorem dX5_sheet_82 : decode cX5_sheet 82 = .ok (.iastore, 1) := by decide +kernel
theorem dX5_sheet_83 : decode cX5_sheet 83 = .ok (.iconst 0, 1) := by decide +kernel
theorem dX5_sheet_84 : decode cX5_sheet 84 = .ok (.istore 4, 2) := by decide +kernel
theorem dX5_sheet_86 : decode cX5_sheet 86 = .ok (.iload 4, 2) := by decide +kernel
theorem dX5_sheet_88 : decode cX5_sheet 88 = .ok (.bipush 40, 2) := by decide +kernel
theorem dX5_sheet_90 : decode cX5_sheet 90 = .ok (.if_icmp .ge 22, 3) := by decide +kernel
theorem dX5_sheet_93 : decode cX5_sheet 93 = .ok (.aload_n 0, 1) := by decide +kernel
theorem dX5_sheet_94 : decode cX5_sheet 94 = .ok (.getfield 43, 3) := by decide +kernel
theorem dX5_sheet_97 : decode cX5_sheet 97 = .ok (.bipush 40, 2) := by decide +kernel
theorem dX5_sheet_99 : decode cX5_sheet 99 = .ok (.iload_n 1, 1) := by decide +kernel
theorem dX5_sheet_100 : decode cX5_sheet 100 = .ok (.imul, 1) := by decide +kernel
theorem dX5_sheet_101 : decode cX5_sheet 101 = .ok (.iload 4, 2) := by decide +kernel
theorem dX5_sheet_103 : decode cX5_sheet 103 = .ok (.iadd, 1) := by decide +kernel
theorem dX5_sheet_104 : decode cX5_sheet 104 = .ok (.lconst 0, 1) := by decide +kernel
theorem dX5_sheet_105 : decode cX5_sheet 105 = .ok (.lastore, 1) := by decide +kernel
theorem dX5_sheet_106 : decode cX5_sheet 106 = .ok (.iinc 4 1, 3) := by decide +kernel
theorem dX5_sheet_109 : decode cX5_sheet 109 = .ok (.goto (-23), 3) := by decide +kernel
theorem dX5_sheet_112 : decode cX5_sheet 112 = .ok (.aload_n 0, 1) := by decide +kernel
theorem dX5_sheet_113 : decode cX5_sheet 113 = .ok (.getfield 40, 3) := by decide +kernel
theorem dX5_sheet_116 : decode cX5_sheet 116 = .ok (.iload_n 1, 1) := by decide +kernel
theorem dX5_sheet_117 : decode cX5_sheet 117 = .ok (.iaload, 1) := by decide +kernel
theorem dX5_sheet_118 : decode cX5_sheet 118 = .ok (.ireturn, 1) := by decide +kernel
theorem dX5_narrowed_0 : decode cX5_narrowed 0 = .ok (.iload_n 0, 1) := by decide +kernel
theorem dX5_narrowed_1 : decode cX5_narrowed 1 = .ok (.bipush 8, 2) := by decide +kernel
theorem dX5_narrowed_3 : decode cX5_narrowed 3 = .ok (.if_icmp .ne 10, 3) := by decide +kernel
theorem dX5_narrowed_6 : decode cX5_narrowed 6 = .ok (.lload_n 1, 1) := by decide +kernel
theorem dX5_narrowed_7 : decode cX5_narrowed 7 = .ok (.l2i, 1) := by decide +kernel
theorem dX5_narrowed_8 : decode cX5_narrowed 8 = .ok (.i2b, 1) := by decide +kernel
theorem dX5_narrowed_9 : decode cX5_narrowed 9 = .ok (.i2l, 1) := by decide +kernel
theorem dX5_narrowed_10 : decode cX5_narrowed 10 = .ok (.goto 17, 3) := by decide +kernel
theorem dX5_narrowed_13 : decode cX5_narrowed 13 = .ok (.iload_n 0, 1) := by decide +kernel
theorem dX5_narrowed_14 : decode cX5_narrowed 14 = .ok (.bipush 16, 2) := by decide +kernel
theorem dX5_narrowed_16 : decode cX5_narrowed 16 = .ok (.if_icmp .ne 10, 3) := by decide +kernel
theorem dX5_narrowed_19 : decode cX5_narrowed 19 = .ok (.lload_n 1, 1) := by decide +kernel
theorem dX5_narrowed_20 : decode cX5_narrowed 20 = .ok (.l2i, 1) := by decide +kernel
theorem dX5_narrowed_21 : decode cX5_narrowed 21 = .ok (.i2s, 1) := by decide +kernel
theorem dX5_narrowed_22 : decode cX5_narrowed 22 = .ok (.i2l, 1) := by decide +kernel
theorem dX5_narrowed_23 : decode cX5_narrowed 23 = .ok (.goto 4, 3) := by decide +kernel
theorem dX5_narrowed_26 : decode cX5_narrowed 26 = .ok (.lload_n 1, 1) := by decide +kernel
theorem dX5_narrowed_27 : decode cX5_narrowed 27 = .ok (.lreturn, 1) := by decide +kernel
theorem dX5_wrong_0 : decode cX5_wrong 0 = .ok (.iload_n 1, 1) := by decide +kernel
theorem dX5_wrong_1 : decode cX5_wrong 1 = .ok (.invokestatic 312, 3) := by decide +kernel
theorem dX5_wrong_4 : decode cX5_wrong 4 = .ok (.ifCond .ne 8, 3) := by decide +kernel
theorem dX5_wrong_7 : decode cX5_wrong 7 = .ok (.ldc 50, 2) := by decide +kernel
theorem dX5_wrong_9 : decode cX5_wrong 9 = .ok (.goto 19, 3) := by decide +kernel
theorem dX5_wrong_12 : decode cX5_wrong 12 = .ok (.aload_n 0, 1) := by decide +kernel
theorem dX5_wrong_13 : decode cX5_wrong 13 = .ok (.getfield 37, 3) := by decide +kernel
theorem dX5_wrong_16 : decode cX5_wrong 16 = .ok (.iload_n 1, 1) := by decide +kernel
theorem dX5_wrong_17 : decode cX5_wrong 17 = .ok (.iaload, 1) := by decide +kernel
theorem dX5_wrong_18 : decode cX5_wrong 18 = .ok (.ifCond .ne 9, 3) := by decide +kernel
theorem dX5_wrong_21 : decode cX5_wrong 21 = .ok (.ldc_w 316, 3) := by decide +kernel
theorem dX5_wrong_24 : decode cX5_wrong 24 = .ok (.goto 4, 3) := by decide +kernel
theorem dX5_wrong_27 : decode cX5_wrong 27 = .ok (.iconst 0, 1) := by decide +kernel
theorem dX5_wrong_28 : decode cX5_wrong 28 = .ok (.ireturn, 1) := by decide +kernel
theorem dX5_write_0 : decode cX5_write 0 = .ok (.aload_n 0, 1) := by decide +kernel
theorem dX5_write_1 : decode cX5_write 1 = .ok (.iload_n 1, 1) := by decide +kernel
theorem dX5_write_2 : decode cX5_write 2 = .ok (.invokevirtual 317, 3) := by decide +kernel
theorem dX5_write_5 : decode cX5_write 5 = .ok (.istore 5, 2) := by decide +kernel
theorem dX5_write_7 : decode cX5_write 7 = .ok (.iload 5, 2) := by decide +kernel
theorem dX5_write_9 : decode cX5_write 9 = .ok (.ifCond .eq 11, 3) := by decide +kernel
theorem dX5_write_12 : decode cX5_write 12 = .ok (.aload_n 0, 1) := by decide +kernel
theorem dX5_write_13 : decode cX5_write 13 = .ok (.iload 5, 2) := by decide +kernel
theorem dX5_write_15 : decode cX5_write 15 = .ok (.invokevirtual 74, 3) := by decide +kernel
theorem dX5_write_18 : decode cX5_write 18 = .ok (.i2l, 1) := by decide +kernel
theorem dX5_write_19 : decode cX5_write 19 = .ok (.lreturn, 1) := by decide +kernel
theorem dX5_write_20 : decode cX5_write 20 = .ok (.iload_n 2, 1) := by decide +kernel
theorem dX5_write_21 : decode cX5_write 21 = .ok (.i2l, 1) := by decide +kernel
theorem dX5_write_22 : decode cX5_write 22 = .ok (.lconst 0, 1) := by decide +kernel
theorem dX5_write_23 : decode cX5_write 23 = .ok (.aload_n 0, 1) := by decide +kernel
theorem dX5_write_24 : decode cX5_write 24 = .ok (.getfield 40, 3) := by decide +kernel
theorem dX5_write_27 : decode cX5_write 27 = .ok (.iload_n 1, 1) := by decide +kernel
theorem dX5_write_28 : decode cX5_write 28 = .ok (.iaload, 1) := by decide +kernel
theorem dX5_write_29 : decode cX5_write 29 = .ok (.iconst 1, 1) := by decide +kernel
theorem dX5_write_30 : decode cX5_write 30 = .ok (.isub, 1) := by decide +kernel
theorem dX5_write_31 : decode cX5_write 31 = .ok (.i2l, 1) := by decide +kernel
theorem dX5_write_32 : decode cX5_write 32 = .ok (.invokestatic 53, 3) := by decide +kernel
theorem dX5_write_35 : decode cX5_write 35 = .ok (.ifCond .ne 11, 3) := by decide +kernel
theorem dX5_write_38 : decode cX5_write 38 = .ok (.aload_n 0, 1) := by decide +kernel
theorem dX5_write_39 : decode cX5_write 39 = .ok (.ldc 50, 2) := by decide +kernel
theorem dX5_write_41 : decode cX5_write 41 = .ok (.invokevirtual 74, 3) := by decide +kernel
theorem dX5_write_44 : decode cX5_write 44 = .ok (.i2l, 1) := by decide +kernel
theorem dX5_write_45 : decode cX5_write 45 = .ok (.lreturn, 1) := by decide +kernel
theorem dX5_write_46 : decode cX5_write 46 = .ok (.aload_n 0, 1) := by decide +kernel
theorem dX5_write_47 : decode cX5_write 47 = .ok (.getfield 43, 3) := by decide +kernel
theorem dX5_write_50 : decode cX5_write 50 = .ok (.bipush 40, 2) := by decide +kernel
theorem dX5_write_52 : decode cX5_write 52 = .ok (.iload_n 1, 1) := by decide +kernel
theorem dX5_write_53 : decode cX5_write 53 = .ok (.imul, 1) := by decide +kernel
theorem dX5_write_54 : decode cX5_write 54 = .ok (.iload_n 2, 1) := by decide +kernel
theorem dX5_write_55 : decode cX5_write 55 = .ok (.iadd, 1) := by decide +kernel
theorem dX5_write_56 : decode cX5_write 56 = .ok (.laload, 1) := by decide +kernel
theorem dX5_write_57 : decode cX5_write 57 = .ok (.lstore 6, 2) := by decide +kernel
theorem dX5_write_59 : decode cX5_write 59 = .ok (.aload_n 0, 1) := by decide +kernel
theorem dX5_write_60 : decode cX5_write 60 = .ok (.getfield 43, 3) := by decide +kernel
theorem dX5_write_63 : decode cX5_write 63 = .ok (.bipush 40, 2) := by decide +kernel
theorem dX5_write_65 : decode cX5_write 65 = .ok (.iload_n 1, 1) := by decide +kernel
theorem dX5_write_66 : decode cX5_write 66 = .ok (.imul, 1) := by decide +kernel
theorem dX5_write_67 : decode cX5_write 67 = .ok (.iload_n 2, 1) := by decide +kernel
theorem dX5_write_68 : decode cX5_write 68 = .ok (.iadd, 1) := by decide +kernel
theorem dX5_write_69 : decode cX5_write 69 = .ok (.aload_n 0, 1) := by decide +kernel
theorem dX5_write_70 : decode cX5_write 70 = .ok (.getfield 37, 3) := by decide +kernel
theorem dX5_write_73 : decode cX5_write 73 = .ok (.iload_n 1, 1) := by decide +kernel
theorem dX5_write_74 : decode cX5_write 74 = .ok (.iaload, 1) := by decide +kernel
theorem dX5_write_75 : decode cX5_write 75 = .ok (.lload_n 3, 1) := by decide +kernel
theorem dX5_write_76 : decode cX5_write 76 = .ok (.invokestatic 320, 3) := by decide +kernel
theorem dX5_write_79 : decode cX5_write 79 = .ok (.lastore, 1) := by decide +kernel
theorem dX5_write_80 : decode cX5_write 80 = .ok (.lload 6, 2) := by decide +kernel
theorem dX5_write_82 : decode cX5_write 82 = .ok (.lreturn, 1) := by decide +kernel
theorem dX5_copy_0 : decode cX5_copy 0 = .ok (.iload_n 1, 1) := by decide +kernel
theorem dX5_copy_1 : decode cX5_copy 1 = .ok (.invokestatic 312, 3) := by decide +kernel
theorem dX5_copy_4 : decode cX5_copy 4 = .ok (.ifCond .eq 10, 3) := by decide +kernel
theorem dX5_copy_7 : decode cX5_copy 7 = .ok (.iload_n 3, 1) := by decide +kernel
theorem dX5_copy_8 : decode cX5_copy 8 = .ok (.invokestatic 312, 3) := by decide +kernel
theorem dX5_copy_11 : decode cX5_copy 11 = .ok (.ifCond .ne 10, 3) := by decide +kernel
theorem dX5_copy_14 : decode cX5_copy 14 = .ok (.aload_n 0, 1) := by decide +kernel
theorem dX5_copy_15 : decode cX5_copy 15 = .ok (.ldc 50, 2) := by decide +kernel
theorem dX5_copy_17 : decode cX5_copy 17 = .ok (.invokevirtual 74, 3) := by decide +kernel
theorem dX5_copy_20 : decode cX5_copy 20 = .ok (.ireturn, 1) := by decide +kernel
theorem dX5_copy_21 : decode cX5_copy 21 = .ok (.aload_n 0, 1) := by decide +kernel
theorem dX5_copy_22 : decode cX5_copy 22 = .ok (.getfield 37, 3) := by decide +kernel
theorem dX5_copy_25 : decode cX5_copy 25 = .ok (.iload_n 1, 1) := by decide +kernel
theorem dX5_copy_26 : decode cX5_copy 26 = .ok (.iaload, 1) := by decide +kernel
theorem dX5_copy_27 : decode cX5_copy 27 = .ok (.ifCond .eq 12, 3) := by decide +kernel
theorem dX5_copy_30 : decode cX5_copy 30 = .ok (.aload_n 0, 1) := by decide +kernel
theorem dX5_copy_31 : decode cX5_copy 31 = .ok (.getfield 37, 3) := by decide +kernel
theorem dX5_copy_34 : decode cX5_copy 34 = .ok (.iload_n 3, 1) := by decide +kernel
theorem dX5_copy_35 : decode cX5_copy 35 = .ok (.iaload, 1) := by decide +kernel
theorem dX5_copy_36 : decode cX5_copy 36 = .ok (.ifCond .ne 11, 3) := by decide +kernel
theorem dX5_copy_39 : decode cX5_copy 39 = .ok (.aload_n 0, 1) := by decide +kernel
theorem dX5_copy_40 : decode cX5_copy 40 = .ok (.ldc_w 316, 3) := by decide +kernel
theorem dX5_copy_43 : decode cX5_copy 43 = .ok (.invokevirtual 74, 3) := by decide +kernel
theorem dX5_copy_46 : decode cX5_copy 46 = .ok (.ireturn, 1) := by decide +kernel
theorem dX5_copy_47 : decode cX5_copy 47 = .ok (.aload_n 0, 1) := by decide +kernel
theorem dX5_copy_48 : decode cX5_copy 48 = .ok (.getfield 37, 3) := by decide +kernel
theorem dX5_copy_51 : decode cX5_copy 51 = .ok (.iload_n 1, 1) := by decide +kernel
theorem dX5_copy_52 : decode cX5_copy 52 = .ok (.iaload, 1) := by decide +kernel
theorem dX5_copy_53 : decode cX5_copy 53 = .ok (.aload_n 0, 1) := by decide +kernel
theorem dX5_copy_54 : decode cX5_copy 54 = .ok (.getfield 37, 3) := by decide +kernel
theorem dX5_copy_57 : decode cX5_copy 57 = .ok (.iload_n 3, 1) := by decide +kernel
theorem dX5_copy_58 : decode cX5_copy 58 = .ok (.iaload, 1) := by decide +kernel
theorem dX5_copy_59 : decode cX5_copy 59 = .ok (.if_icmp .eq 10, 3) := by decide +kernel
theorem dX5_copy_62 : decode cX5_copy 62 = .ok (.aload_n 0, 1) := by decide +kernel
theorem dX5_copy_63 : decode cX5_copy 63 = .ok (.ldc 141, 2) := by decide +kernel
theorem dX5_copy_65 : decode cX5_copy 65 = .ok (.invokevirtual 74, 3) := by decide +kernel
theorem dX5_copy_68 : decode cX5_copy 68 = .ok (.ireturn, 1) := by decide +kernel
theorem dX5_copy_69 : decode cX5_copy 69 = .ok (.iload_n 2, 1) := by decide +kernel
theorem dX5_copy_70 : decode cX5_copy 70 = .ok (.ifCond .lt 40, 3) := by decide +kernel
theorem dX5_copy_73 : decode cX5_copy 73 = .ok (.iload 4, 2) := by decide +kernel
theorem dX5_copy_75 : decode cX5_copy 75 = .ok (.ifCond .lt 35, 3) := by decide +kernel
theorem dX5_copy_78 : decode cX5_copy 78 = .ok (.iload 5, 2) := by decide +kernel
theorem dX5_copy_80 : decode cX5_copy 80 = .ok (.ifCond .lt 30, 3) := by decide +kernel
theorem dX5_copy_83 : decode cX5_copy 83 = .ok (.iload 5, 2) := by decide +kernel
theorem dX5_copy_85 : decode cX5_copy 85 = .ok (.aload_n 0, 1) := by decide +kernel
theorem dX5_copy_86 : decode cX5_copy 86 = .ok (.getfield 40, 3) := by decide +kernel
theorem dX5_copy_89 : decode cX5_copy 89 = .ok (.iload_n 1, 1) := by decide +kernel
theorem dX5_copy_90 : decode cX5_copy 90 = .ok (.iaload, 1) := by decide +kernel
theorem dX5_copy_91 : decode cX5_copy 91 = .ok (.iload_n 2, 1) := by decide +kernel
theorem dX5_copy_92 : decode cX5_copy 92 = .ok (.isub, 1) := by decide +kernel
theorem dX5_copy_93 : decode cX5_copy 93 = .ok (.if_icmp .gt 17, 3) := by decide +kernel
theorem dX5_copy_96 : decode cX5_copy 96 = .ok (.iload 5, 2) := by decide +kernel
theorem dX5_copy_98 : decode cX5_copy 98 = .ok (.aload_n 0, 1) := by decide +kernel
theorem dX5_copy_99 : decode cX5_copy 99 = .ok (.getfield 40, 3) := by decide +kernel
theorem dX5_copy_102 : decode cX5_copy 102 = .ok (.iload_n 3, 1) := by decide +kernel
theorem dX5_copy_103 : decode cX5_copy 103 = .ok (.iaload, 1) := by decide +kernel
theorem dX5_copy_104 : decode cX5_copy 104 = .ok (.iload 4, 2) := by decide +kernel
theorem dX5_copy_106 : decode cX5_copy 106 = .ok (.isub, 1) := by decide +kernel
theorem dX5_copy_107 : decode cX5_copy 107 = .ok (.if_icmp .le 10, 3) := by decide +kernel
theorem dX5_copy_110 : decode cX5_copy 110 = .ok (.aload_n 0, 1) := by decide +kernel
theorem dX5_copy_111 : decode cX5_copy 111 = .ok (.ldc 50, 2) := by decide +kernel
theorem dX5_copy_113 : decode cX5_copy 113 = .ok (.invokevirtual 74, 3) := by decide +kernel
theorem dX5_copy_116 : decode cX5_copy 116 = .ok (.ireturn, 1) := by decide +kernel
theorem dX5_copy_117 : decode cX5_copy 117 = .ok (.iconst 0, 1) := by decide +kernel
theorem dX5_copy_118 : decode cX5_copy 118 = .ok (.istore 6, 2) := by decide +kernel
theorem dX5_copy_120 : decode cX5_copy 120 = .ok (.iload 6, 2) := by decide +kernel
theorem dX5_copy_122 : decode cX5_copy 122 = .ok (.iload 5, 2) := by decide +kernel
theorem dX5_copy_124 : decode cX5_copy 124 = .ok (.if_icmp .ge 30, 3) := by decide +kernel
theorem dX5_copy_127 : decode cX5_copy 127 = .ok (.aload_n 0, 1) := by decide +kernel
theorem dX5_copy_128 : decode cX5_copy 128 = .ok (.getfield 47, 3) := by decide +kernel
theorem dX5_copy_131 : decode cX5_copy 131 = .ok (.iload 6, 2) := by decide +kernel
theorem dX5_copy_133 : decode cX5_copy 133 = .ok (.aload_n 0, 1) := by decide +kernel
theorem dX5_copy_134 : decode cX5_copy 134 = .ok (.getfield 43, 3) := by decide +kernel
theorem dX5_copy_137 : decode cX5_copy 137 = .ok (.bipush 40, 2) := by decide +kernel
theorem dX5_copy_139 : decode cX5_copy 139 = .ok (.iload_n 1, 1) := by decide +kernel
theorem dX5_copy_140 : decode cX5_copy 140 = .ok (.imul, 1) := by decide +kernel
theorem dX5_copy_141 : decode cX5_copy 141 = .ok (.iload_n 2, 1) := by decide +kernel
theorem dX5_copy_142 : decode cX5_copy 142 = .ok (.iadd, 1) := by decide +kernel
theorem dX5_copy_143 : decode cX5_copy 143 = .ok (.iload 6, 2) := by decide +kernel
theorem dX5_copy_145 : decode cX5_copy 145 = .ok (.iadd, 1) := by decide +kernel
theorem dX5_copy_146 : decode cX5_copy 146 = .ok (.laload, 1) := by decide +kernel
theorem dX5_copy_147 : decode cX5_copy 147 = .ok (.lastore, 1) := by decide +kernel
theorem dX5_copy_148 : decode cX5_copy 148 = .ok (.iinc 6 1, 3) := by decide +kernel
theorem dX5_copy_151 : decode cX5_copy 151 = .ok (.goto (-31), 3) := by decide +kernel
theorem dX5_copy_154 : decode cX5_copy 154 = .ok (.iconst 0, 1) := by decide +kernel
theorem dX5_copy_155 : decode cX5_copy 155 = .ok (.istore 6, 2) := by decide +kernel
theorem dX5_copy_157 : decode cX5_copy 157 = .ok (.iload 6, 2) := by decide +kernel
theorem dX5_copy_159 : decode cX5_copy 159 = .ok (.iload 5, 2) := by decide +kernel
theorem dX5_copy_161 : decode cX5_copy 161 = .ok (.if_icmp .ge 31, 3) := by decide +kernel
theorem dX5_copy_164 : decode cX5_copy 164 = .ok (.aload_n 0, 1) := by decide +kernel
theorem dX5_copy_165 : decode cX5_copy 165 = .ok (.getfield 43, 3) := by decide +kernel
theorem dX5_copy_168 : decode cX5_copy 168 = .ok (.bipush 40, 2) := by decide +kernel
theorem dX5_copy_170 : decode cX5_copy 170 = .ok (.iload_n 3, 1) := by decide +kernel
theorem dX5_copy_171 : decode cX5_copy 171 = .ok (.imul, 1) := by decide +kernel
theorem dX5_copy_172 : decode cX5_copy 172 = .ok (.iload 4, 2) := by decide +kernel
theorem dX5_copy_174 : decode cX5_copy 174 = .ok (.iadd, 1) := by decide +kernel
theorem dX5_copy_175 : decode cX5_copy 175 = .ok (.iload 6, 2) := by decide +kernel
theorem dX5_copy_177 : decode cX5_copy 177 = .ok (.iadd, 1) := by decide +kernel
theorem dX5_copy_178 : decode cX5_copy 178 = .ok (.aload_n 0, 1) := by decide +kernel
theorem dX5_copy_179 : decode cX5_copy 179 = .ok (.getfield 47, 3) := by decide +kernel
theorem dX5_copy_182 : decode cX5_copy 182 = .ok (.iload 6, 2) := by decide +kernel
theorem dX5_copy_184 : decode cX5_copy 184 = .ok (.laload, 1) := by decide +kernel
theorem dX5_copy_185 : decode cX5_copy 185 = .ok (.lastore, 1) := by decide +kernel
theorem dX5_copy_186 : decode cX5_copy 186 = .ok (.iinc 6 1, 3) := by decide +kernel
theorem dX5_copy_189 : decode cX5_copy 189 = .ok (.goto (-32), 3) := by decide +kernel
theorem dX5_copy_192 : decode cX5_copy 192 = .ok (.iload 5, 2) := by decide +kernel
theorem dX5_copy_194 : decode cX5_copy 194 = .ok (.ireturn, 1) := by decide +kernel
theorem dX5_lays_0 : decode cX5_lays 0 = .ok (.aload_n 0, 1) := by decide +kernel
theorem dX5_lays_1 : decode cX5_lays 1 = .ok (.iload_n 1, 1) := by decide +kernel
theorem dX5_lays_2 : decode cX5_lays 2 = .ok (.invokevirtual 317, 3) := by decide +kernel
theorem dX5_lays_5 : decode cX5_lays 5 = .ok (.istore_n 2, 1) := by decide +kernel
theorem dX5_lays_6 : decode cX5_lays 6 = .ok (.iload_n 2, 1) := by decide +kernel
theorem dX5_lays_7 : decode cX5_lays 7 = .ok (.ifCond .eq 9, 3) := by decide +kernel
theorem dX5_lays_10 : decode cX5_lays 10 = .ok (.aload_n 0, 1) := by decide +kernel
theorem dX5_lays_11 : decode cX5_lays 11 = .ok (.iload_n 2, 1) := by decide +kernel
theorem dX5_lays_12 : decode cX5_lays 12 = .ok (.invokevirtual 74, 3) := by decide +kernel
theorem dX5_lays_15 : decode cX5_lays 15 = .ok (.ireturn, 1) := by decide +kernel
theorem dX5_lays_16 : decode cX5_lays 16 = .ok (.iconst 0, 1) := by decide +kernel
theorem dX5_lays_17 : decode cX5_lays 17 = .ok (.istore_n 3, 1) := by decide +kernel
theorem dX5_lays_18 : decode cX5_lays 18 = .ok (.iconst 0, 1) := by decide +kernel
theorem dX5_lays_19 : decode cX5_lays 19 = .ok (.istore 4, 2) := by decide +kernel
theorem dX5_lays_21 : decode cX5_lays 21 = .ok (.iload 4, 2) := by decide +kernel
theorem dX5_lays_23 : decode cX5_lays 23 = .ok (.aload_n 0, 1) := by decide +kernel
theorem dX5_lays_24 : decode cX5_lays 24 = .ok (.getfield 40, 3) := by decide +kernel
theorem dX5_lays_27 : decode cX5_lays 27 = .ok (.iload_n 1, 1) := by decide +kernel
theorem dX5_lays_28 : decode cX5_lays 28 = .ok (.iaload, 1) := by decide +kernel
theorem dX5_lays_29 : decode cX5_lays 29 = .ok (.if_icmp .ge 63, 3) := by decide +kernel
theorem dX5_lays_32 : decode cX5_lays 32 = .ok (.iload 4, 2) := by decide +kernel
theorem dX5_lays_34 : decode cX5_lays 34 = .ok (.aload_n 0, 1) := by decide +kernel
theorem dX5_lays_35 : decode cX5_lays 35 = .ok (.getfield 7, 3) := by decide +kernel
theorem dX5_lays_38 : decode cX5_lays 38 = .ok (.iconst 1, 1) := by decide +kernel
theorem dX5_lays_39 : decode cX5_lays 39 = .ok (.iaload, 1) := by decide +kernel
theorem dX5_lays_40 : decode cX5_lays 40 = .ok (.if_icmp .ge 52, 3) := by decide +kernel
theorem dX5_lays_43 : decode cX5_lays 43 = .ok (.aload_n 0, 1) := by decide +kernel
theorem dX5_lays_44 : decode cX5_lays 44 = .ok (.getfield 43, 3) := by decide +kernel
theorem dX5_lays_47 : decode cX5_lays 47 = .ok (.bipush 40, 2) := by decide +kernel
theorem dX5_lays_49 : decode cX5_lays 49 = .ok (.iload_n 1, 1) := by decide +kernel
theorem dX5_lays_50 : decode cX5_lays 50 = .ok (.imul, 1) := by decide +kernel
theorem dX5_lays_51 : decode cX5_lays 51 = .ok (.iload 4, 2) := by decide +kernel
theorem dX5_lays_53 : decode cX5_lays 53 = .ok (.iadd, 1) := by decide +kernel
theorem dX5_lays_54 : decode cX5_lays 54 = .ok (.laload, 1) := by decide +kernel
theorem dX5_lays_55 : decode cX5_lays 55 = .ok (.lstore 5, 2) := by decide +kernel
theorem dX5_lays_57 : decode cX5_lays 57 = .ok (.lload 5, 2) := by decide +kernel
theorem dX5_lays_59 : decode cX5_lays 59 = .ok (.lconst 0, 1) := by decide +kernel
theorem dX5_lays_60 : decode cX5_lays 60 = .ok (.ldc2_w 72, 3) := by decide +kernel
theorem dX5_lays_63 : decode cX5_lays 63 = .ok (.invokestatic 53, 3) := by decide +kernel
theorem dX5_lays_66 : decode cX5_lays 66 = .ok (.ifCond .eq 20, 3) := by decide +kernel
theorem dX5_lays_69 : decode cX5_lays 69 = .ok (.aload_n 0, 1) := by decide +kernel
theorem dX5_lays_70 : decode cX5_lays 70 = .ok (.getfield 7, 3) := by decide +kernel
theorem dX5_lays_73 : decode cX5_lays 73 = .ok (.iload 4, 2) := by decide +kernel
theorem dX5_lays_75 : decode cX5_lays 75 = .ok (.iconst 2, 1) := by decide +kernel
theorem dX5_lays_76 : decode cX5_lays 76 = .ok (.invokestatic 59, 3) := by decide +kernel
theorem dX5_lays_79 : decode cX5_lays 79 = .ok (.lload 5, 2) := by decide +kernel
theorem dX5_lays_81 : decode cX5_lays 81 = .ok (.l2i, 1) := by decide +kernel
theorem dX5_lays_82 : decode cX5_lays 82 = .ok (.iastore, 1) := by decide +kernel
theorem dX5_lays_83 : decode cX5_lays 83 = .ok (.iinc 3 1, 3) := by decide +kernel
theorem dX5_lays_86 : decode cX5_lays 86 = .ok (.iinc 4 1, 3) := by decide +kernel
theorem dX5_lays_89 : decode cX5_lays 89 = .ok (.goto (-68), 3) := by decide +kernel
theorem dX5_lays_92 : decode cX5_lays 92 = .ok (.iload_n 3, 1) := by decide +kernel
theorem dX5_lays_93 : decode cX5_lays 93 = .ok (.ireturn, 1) := by decide +kernel
theorem dX5_wrongBook_0 : decode cX5_wrongBook 0 = .ok (.aload_n 0, 1) := by decide +kernel
theorem dX5_wrongBook_1 : decode cX5_wrongBook 1 = .ok (.iload_n 1, 1) := by decide +kernel
theorem dX5_wrongBook_2 : decode cX5_wrongBook 2 = .ok (.invokevirtual 317, 3) := by decide +kernel
theorem dX5_wrongBook_5 : decode cX5_wrongBook 5 = .ok (.istore_n 3, 1) := by decide +kernel
theorem dX5_wrongBook_6 : decode cX5_wrongBook 6 = .ok (.iload_n 3, 1) := by decide +kernel
theorem dX5_wrongBook_7 : decode cX5_wrongBook 7 = .ok (.ifCond .eq 7, 3) := by decide +kernel
theorem dX5_wrongBook_10 : decode cX5_wrongBook 10 = .ok (.iload_n 3, 1) := by decide +kernel
theorem dX5_wrongBook_11 : decode cX5_wrongBook 11 = .ok (.goto 17, 3) := by decide +kernel
theorem dX5_wrongBook_14 : decode cX5_wrongBook 14 = .ok (.aload_n 0, 1) := by decide +kernel
theorem dX5_wrongBook_15 : decode cX5_wrongBook 15 = .ok (.iload_n 2, 1) := by decide +kernel
theorem dX5_wrongBook_16 : decode cX5_wrongBook 16 = .ok (.invokevirtual 127, 3) := by decide +kernel
theorem dX5_wrongBook_19 : decode cX5_wrongBook 19 = .ok (.ifCond .eq 7, 3) := by decide +kernel
theorem dX5_wrongBook_22 : decode cX5_wrongBook 22 = .ok (.iconst 0, 1) := by decide +kernel
theorem dX5_wrongBook_23 : decode cX5_wrongBook 23 = .ok (.goto 5, 3) := by decide +kernel
theorem dX5_wrongBook_26 : decode cX5_wrongBook 26 = .ok (.ldc 50, 2) := by decide +kernel
theorem dX5_wrongBook_28 : decode cX5_wrongBook 28 = .ok (.ireturn, 1) := by decide +kernel
theorem dX5_book_0 : decode cX5_book 0 = .ok (.aload_n 0, 1) := by decide +kernel
theorem dX5_book_1 : decode cX5_book 1 = .ok (.iload_n 1, 1) := by decide +kernel
theorem dX5_book_2 : decode cX5_book 2 = .ok (.iload_n 2, 1) := by decide +kernel
theorem dX5_book_3 : decode cX5_book 3 = .ok (.invokevirtual 324, 3) := by decide +kernel
theorem dX5_book_6 : decode cX5_book 6 = .ok (.istore_n 3, 1) := by decide +kernel
theorem dX5_book_7 : decode cX5_book 7 = .ok (.iload_n 3, 1) := by decide +kernel
theorem dX5_book_8 : decode cX5_book 8 = .ok (.ifCond .eq 9, 3) := by decide +kernel
theorem dX5_book_11 : decode cX5_book 11 = .ok (.aload_n 0, 1) := by decide +kernel
theorem dX5_book_12 : decode cX5_book 12 = .ok (.iload_n 3, 1) := by decide +kernel
theorem dX5_book_13 : decode cX5_book 13 = .ok (.invokevirtual 74, 3) := by decide +kernel
theorem dX5_book_16 : decode cX5_book 16 = .ok (.ireturn, 1) := by decide +kernel
theorem dX5_book_17 : decode cX5_book 17 = .ok (.aload_n 0, 1) := by decide +kernel
theorem dX5_book_18 : decode cX5_book 18 = .ok (.invokevirtual 172, 3) := by decide +kernel
theorem dX5_book_21 : decode cX5_book 21 = .ok (.iconst 0, 1) := by decide +kernel
theorem dX5_book_22 : decode cX5_book 22 = .ok (.istore 4, 2) := by decide +kernel
theorem dX5_book_24 : decode cX5_book 24 = .ok (.iload 4, 2) := by decide +kernel
theorem dX5_book_26 : decode cX5_book 26 = .ok (.aload_n 0, 1) := by decide +kernel
theorem dX5_book_27 : decode cX5_book 27 = .ok (.getfield 40, 3) := by decide +kernel
theorem dX5_book_30 : decode cX5_book 30 = .ok (.iload_n 1, 1) := by decide +kernel
theorem dX5_book_31 : decode cX5_book 31 = .ok (.iaload, 1) := by decide +kernel
theorem dX5_book_32 : decode cX5_book 32 = .ok (.if_icmp .ge 32, 3) := by decide +kernel
theorem dX5_book_35 : decode cX5_book 35 = .ok (.aload_n 0, 1) := by decide +kernel
theorem dX5_book_36 : decode cX5_book 36 = .ok (.getfield 43, 3) := by decide +kernel
theorem dX5_book_39 : decode cX5_book 39 = .ok (.bipush 40, 2) := by decide +kernel
theorem dX5_book_41 : decode cX5_book 41 = .ok (.iload_n 1, 1) := by decide +kernel
theorem dX5_book_42 : decode cX5_book 42 = .ok (.imul, 1) := by decide +kernel
theorem dX5_book_43 : decode cX5_book 43 = .ok (.iload 4, 2) := by decide +kernel
theorem dX5_book_45 : decode cX5_book 45 = .ok (.iadd, 1) := by decide +kernel
theorem dX5_book_46 : decode cX5_book 46 = .ok (.aload_n 0, 1) := by decide +kernel
theorem dX5_book_47 : decode cX5_book 47 = .ok (.iload_n 2, 1) := by decide +kernel
theorem dX5_book_48 : decode cX5_book 48 = .ok (.iconst 1, 1) := by decide +kernel
theorem dX5_book_49 : decode cX5_book 49 = .ok (.invokevirtual 63, 3) := by decide +kernel
theorem dX5_book_52 : decode cX5_book 52 = .ok (.i2l, 1) := by decide +kernel
theorem dX5_book_53 : decode cX5_book 53 = .ok (.lastore, 1) := by decide +kernel
theorem dX5_book_54 : decode cX5_book 54 = .ok (.aload_n 0, 1) := by decide +kernel
theorem dX5_book_55 : decode cX5_book 55 = .ok (.invokevirtual 152, 3) := by decide +kernel
theorem dX5_book_58 : decode cX5_book 58 = .ok (.iinc 4 1, 3) := by decide +kernel
theorem dX5_book_61 : decode cX5_book 61 = .ok (.goto (-37), 3) := by decide +kernel
theorem dX5_book_64 : decode cX5_book 64 = .ok (.aload_n 0, 1) := by decide +kernel
theorem dX5_book_65 : decode cX5_book 65 = .ok (.aload_n 0, 1) := by decide +kernel
theorem dX5_book_66 : decode cX5_book 66 = .ok (.getfield 40, 3) := by decide +kernel
theorem dX5_book_69 : decode cX5_book 69 = .ok (.iload_n 1, 1) := by decide +kernel
theorem dX5_book_70 : decode cX5_book 70 = .ok (.iaload, 1) := by decide +kernel
theorem dX5_book_71 : decode cX5_book 71 = .ok (.invokevirtual 175, 3) := by decide +kernel
theorem dX5_book_74 : decode cX5_book 74 = .ok (.ireturn, 1) := by decide +kernel
theorem dX5_isSo_0 : decode cX5_isSo 0 = .ok (.iconst 1, 1) := by decide +kernel
theorem dX5_isSo_1 : decode cX5_isSo 1 = .ok (.istore_n 3, 1) := by decide +kernel
theorem dX5_isSo_2 : decode cX5_isSo 2 = .ok (.iconst 0, 1) := by decide +kernel
theorem dX5_isSo_3 : decode cX5_isSo 3 = .ok (.istore 4, 2) := by decide +kernel
theorem dX5_isSo_5 : decode cX5_isSo 5 = .ok (.iload 4, 2) := by decide +kernel
theorem dX5_isSo_7 : decode cX5_isSo 7 = .ok (.aload_n 0, 1) := by decide +kernel
theorem dX5_isSo_8 : decode cX5_isSo 8 = .ok (.getfield 40, 3) := by decide +kernel
theorem dX5_isSo_11 : decode cX5_isSo 11 = .ok (.iload_n 1, 1) := by decide +kernel
theorem dX5_isSo_12 : decode cX5_isSo 12 = .ok (.iaload, 1) := by decide +kernel
theorem dX5_isSo_13 : decode cX5_isSo 13 = .ok (.if_icmp .ge 46, 3) := by decide +kernel
theorem dX5_isSo_16 : decode cX5_isSo 16 = .ok (.iload_n 3, 1) := by decide +kernel
theorem dX5_isSo_17 : decode cX5_isSo 17 = .ok (.ifCond .eq 42, 3) := by decide +kernel
theorem dX5_isSo_20 : decode cX5_isSo 20 = .ok (.aload_n 0, 1) := by decide +kernel
theorem dX5_isSo_21 : decode cX5_isSo 21 = .ok (.getfield 43, 3) := by decide +kernel
theorem dX5_isSo_24 : decode cX5_isSo 24 = .ok (.bipush 40, 2) := by decide +kernel
theorem dX5_isSo_26 : decode cX5_isSo 26 = .ok (.iload_n 1, 1) := by decide +kernel
theorem dX5_isSo_27 : decode cX5_isSo 27 = .ok (.imul, 1) := by decide +kernel
theorem dX5_isSo_28 : decode cX5_isSo 28 = .ok (.iload 4, 2) := by decide +kernel
theorem dX5_isSo_30 : decode cX5_isSo 30 = .ok (.iadd, 1) := by decide +kernel
theorem dX5_isSo_31 : decode cX5_isSo 31 = .ok (.laload, 1) := by decide +kernel
theorem dX5_isSo_32 : decode cX5_isSo 32 = .ok (.aload_n 0, 1) := by decide +kernel
theorem dX5_isSo_33 : decode cX5_isSo 33 = .ok (.iload_n 2, 1) := by decide +kernel
theorem dX5_isSo_34 : decode cX5_isSo 34 = .ok (.iconst 1, 1) := by decide +kernel
theorem dX5_isSo_35 : decode cX5_isSo 35 = .ok (.invokevirtual 63, 3) := by decide +kernel
theorem dX5_isSo_38 : decode cX5_isSo 38 = .ok (.i2l, 1) := by decide +kernel
theorem dX5_isSo_39 : decode cX5_isSo 39 = .ok (.lcmp, 1) := by decide +kernel
theorem dX5_isSo_40 : decode cX5_isSo 40 = .ok (.ifCond .ne 7, 3) := by decide +kernel
theorem dX5_isSo_43 : decode cX5_isSo 43 = .ok (.iconst 1, 1) := by decide +kernel
theorem dX5_isSo_44 : decode cX5_isSo 44 = .ok (.goto 4, 3) := by decide +kernel
theorem dX5_isSo_47 : decode cX5_isSo 47 = .ok (.iconst 0, 1) := by decide +kernel
theorem dX5_isSo_48 : decode cX5_isSo 48 = .ok (.istore_n 3, 1) := by decide +kernel
theorem dX5_isSo_49 : decode cX5_isSo 49 = .ok (.aload_n 0, 1) := by decide +kernel
theorem dX5_isSo_50 : decode cX5_isSo 50 = .ok (.invokevirtual 152, 3) := by decide +kernel
theorem dX5_isSo_53 : decode cX5_isSo 53 = .ok (.iinc 4 1, 3) := by decide +kernel
theorem dX5_isSo_56 : decode cX5_isSo 56 = .ok (.goto (-51), 3) := by decide +kernel
theorem dX5_isSo_59 : decode cX5_isSo 59 = .ok (.iload_n 3, 1) := by decide +kernel
theorem dX5_isSo_60 : decode cX5_isSo 60 = .ok (.ireturn, 1) := by decide +kernel
theorem dX5_read_0 : decode cX5_read 0 = .ok (.aload_n 0, 1) := by decide +kernel
theorem dX5_read_1 : decode cX5_read 1 = .ok (.iload_n 1, 1) := by decide +kernel
theorem dX5_read_2 : decode cX5_read 2 = .ok (.iload_n 2, 1) := by decide +kernel
theorem dX5_read_3 : decode cX5_read 3 = .ok (.invokevirtual 324, 3) := by decide +kernel
theorem dX5_read_6 : decode cX5_read 6 = .ok (.istore_n 3, 1) := by decide +kernel
theorem dX5_read_7 : decode cX5_read 7 = .ok (.iload_n 3, 1) := by decide +kernel
theorem dX5_read_8 : decode cX5_read 8 = .ok (.ifCond .eq 9, 3) := by decide +kernel
theorem dX5_read_11 : decode cX5_read 11 = .ok (.aload_n 0, 1) := by decide +kernel
theorem dX5_read_12 : decode cX5_read 12 = .ok (.iload_n 3, 1) := by decide +kernel
theorem dX5_read_13 : decode cX5_read 13 = .ok (.invokevirtual 74, 3) := by decide +kernel
theorem dX5_read_16 : decode cX5_read 16 = .ok (.ireturn, 1) := by decide +kernel
theorem dX5_read_17 : decode cX5_read 17 = .ok (.aload_n 0, 1) := by decide +kernel
theorem dX5_read_18 : decode cX5_read 18 = .ok (.invokevirtual 172, 3) := by decide +kernel
theorem dX5_read_21 : decode cX5_read 21 = .ok (.iconst 0, 1) := by decide +kernel
theorem dX5_read_22 : decode cX5_read 22 = .ok (.istore 4, 2) := by decide +kernel
theorem dX5_read_24 : decode cX5_read 24 = .ok (.iconst 0, 1) := by decide +kernel
theorem dX5_read_25 : decode cX5_read 25 = .ok (.istore 5, 2) := by decide +kernel
theorem dX5_read_27 : decode cX5_read 27 = .ok (.iload 5, 2) := by decide +kernel
theorem dX5_read_29 : decode cX5_read 29 = .ok (.bipush 9, 2) := by decide +kernel
theorem dX5_read_31 : decode cX5_read 31 = .ok (.if_icmp .gt 69, 3) := by decide +kernel
theorem dX5_read_34 : decode cX5_read 34 = .ok (.bipush (-9), 2) := by decide +kernel
theorem dX5_read_36 : decode cX5_read 36 = .ok (.istore 6, 2) := by decide +kernel
theorem dX5_read_38 : decode cX5_read 38 = .ok (.iload 6, 2) := by decide +kernel
theorem dX5_read_40 : decode cX5_read 40 = .ok (.bipush 9, 2) := by decide +kernel
theorem dX5_read_42 : decode cX5_read 42 = .ok (.if_icmp .gt 52, 3) := by decide +kernel
theorem dX5_read_45 : decode cX5_read 45 = .ok (.aload_n 0, 1) := by decide +kernel
theorem dX5_read_46 : decode cX5_read 46 = .ok (.getfield 7, 3) := by decide +kernel
theorem dX5_read_49 : decode cX5_read 49 = .ok (.iload_n 2, 1) := by decide +kernel
theorem dX5_read_50 : decode cX5_read 50 = .ok (.iconst 2, 1) := by decide +kernel
theorem dX5_read_51 : decode cX5_read 51 = .ok (.invokestatic 59, 3) := by decide +kernel
theorem dX5_read_54 : decode cX5_read 54 = .ok (.iload 5, 2) := by decide +kernel
theorem dX5_read_56 : decode cX5_read 56 = .ok (.iastore, 1) := by decide +kernel
theorem dX5_read_57 : decode cX5_read 57 = .ok (.aload_n 0, 1) := by decide +kernel
theorem dX5_read_58 : decode cX5_read 58 = .ok (.getfield 7, 3) := by decide +kernel
theorem dX5_read_61 : decode cX5_read 61 = .ok (.iconst 3, 1) := by decide +kernel
theorem dX5_read_62 : decode cX5_read 62 = .ok (.iload 6, 2) := by decide +kernel
theorem dX5_read_64 : decode cX5_read 64 = .ok (.iastore, 1) := by decide +kernel
theorem dX5_read_65 : decode cX5_read 65 = .ok (.iload 4, 2) := by decide +kernel
theorem dX5_read_67 : decode cX5_read 67 = .ok (.aload_n 0, 1) := by decide +kernel
theorem dX5_read_68 : decode cX5_read 68 = .ok (.aload_n 0, 1) := by decide +kernel
theorem dX5_read_69 : decode cX5_read 69 = .ok (.iload_n 1, 1) := by decide +kernel
theorem dX5_read_70 : decode cX5_read 70 = .ok (.iload_n 2, 1) := by decide +kernel
theorem dX5_read_71 : decode cX5_read 71 = .ok (.invokevirtual 327, 3) := by decide +kernel
theorem dX5_read_74 : decode cX5_read 74 = .ok (.ifCond .eq 7, 3) := by decide +kernel
theorem dX5_read_77 : decode cX5_read 77 = .ok (.iconst 1, 1) := by decide +kernel
theorem dX5_read_78 : decode cX5_read 78 = .ok (.goto 4, 3) := by decide +kernel
theorem dX5_read_81 : decode cX5_read 81 = .ok (.iconst 0, 1) := by decide +kernel
theorem dX5_read_82 : decode cX5_read 82 = .ok (.invokevirtual 175, 3) := by decide +kernel
theorem dX5_read_85 : decode cX5_read 85 = .ok (.iadd, 1) := by decide +kernel
theorem dX5_read_86 : decode cX5_read 86 = .ok (.istore 4, 2) := by decide +kernel
theorem dX5_read_88 : decode cX5_read 88 = .ok (.iinc 6 1, 3) := by decide +kernel
theorem dX5_read_91 : decode cX5_read 91 = .ok (.goto (-53), 3) := by decide +kernel
theorem dX5_read_94 : decode cX5_read 94 = .ok (.iinc 5 1, 3) := by decide +kernel
theorem dX5_read_97 : decode cX5_read 97 = .ok (.goto (-70), 3) := by decide +kernel
theorem dX5_read_100 : decode cX5_read 100 = .ok (.iload 4, 2) := by decide +kernel
theorem dX5_read_102 : decode cX5_read 102 = .ok (.ireturn, 1) := by decide +kernel
theorem dX5_image_0 : decode cX5_image 0 = .ok (.iconst 0, 1) := by decide +kernel
theorem dX5_image_1 : decode cX5_image 1 = .ok (.istore_n 1, 1) := by decide +kernel
theorem dX5_image_2 : decode cX5_image 2 = .ok (.iload_n 1, 1) := by decide +kernel
theorem dX5_image_3 : decode cX5_image 3 = .ok (.bipush 101, 2) := by decide +kernel
theorem dX5_image_5 : decode cX5_image 5 = .ok (.if_icmp .ge 21, 3) := by decide +kernel
theorem dX5_image_8 : decode cX5_image 8 = .ok (.aload_n 0, 1) := by decide +kernel
theorem dX5_image_9 : decode cX5_image 9 = .ok (.getfield 13, 3) := by decide +kernel
theorem dX5_image_12 : decode cX5_image 12 = .ok (.iload_n 1, 1) := by decide +kernel
theorem dX5_image_13 : decode cX5_image 13 = .ok (.aload_n 0, 1) := by decide +kernel
theorem dX5_image_14 : decode cX5_image 14 = .ok (.getfield 7, 3) := by decide +kernel
theorem dX5_image_17 : decode cX5_image 17 = .ok (.iload_n 1, 1) := by decide +kernel
theorem dX5_image_18 : decode cX5_image 18 = .ok (.iaload, 1) := by decide +kernel
theorem dX5_image_19 : decode cX5_image 19 = .ok (.iastore, 1) := by decide +kernel
theorem dX5_image_20 : decode cX5_image 20 = .ok (.iinc 1 1, 3) := by decide +kernel
theorem dX5_image_23 : decode cX5_image 23 = .ok (.goto (-21), 3) := by decide +kernel
theorem dX5_image_26 : decode cX5_image 26 = .ok (.aload_n 0, 1) := by decide +kernel
theorem dX5_image_27 : decode cX5_image 27 = .ok (.iconst 1, 1) := by decide +kernel
theorem dX5_image_28 : decode cX5_image 28 = .ok (.putfield 330, 3) := by decide +kernel
theorem dX5_image_31 : decode cX5_image 31 = .ok (.iconst 1, 1) := by decide +kernel
theorem dX5_image_32 : decode cX5_image 32 = .ok (.ireturn, 1) := by decide +kernel
theorem dX5_undo_0 : decode cX5_undo 0 = .ok (.aload_n 0, 1) := by decide +kernel
theorem dX5_undo_1 : decode cX5_undo 1 = .ok (.getfield 330, 3) := by decide +kernel
theorem dX5_undo_4 : decode cX5_undo 4 = .ok (.ifCond .ne 10, 3) := by decide +kernel
theorem dX5_undo_7 : decode cX5_undo 7 = .ok (.aload_n 0, 1) := by decide +kernel
theorem dX5_undo_8 : decode cX5_undo 8 = .ok (.ldc 178, 2) := by decide +kernel
theorem dX5_undo_10 : decode cX5_undo 10 = .ok (.invokevirtual 74, 3) := by decide +kernel
theorem dX5_undo_13 : decode cX5_undo 13 = .ok (.ireturn, 1) := by decide +kernel
theorem dX5_undo_14 : decode cX5_undo 14 = .ok (.iconst 0, 1) := by decide +kernel
theorem dX5_undo_15 : decode cX5_undo 15 = .ok (.istore_n 1, 1) := by decide +kernel
theorem dX5_undo_16 : decode cX5_undo 16 = .ok (.iload_n 1, 1) := by decide +kernel
theorem dX5_undo_17 : decode cX5_undo 17 = .ok (.bipush 101, 2) := by decide +kernel
theorem dX5_undo_19 : decode cX5_undo 19 = .ok (.if_icmp .ge 21, 3) := by decide +kernel
theorem dX5_undo_22 : decode cX5_undo 22 = .ok (.aload_n 0, 1) := by decide +kernel
theorem dX5_undo_23 : decode cX5_undo 23 = .ok (.getfield 7, 3) := by decide +kernel
theorem dX5_undo_26 : decode cX5_undo 26 = .ok (.iload_n 1, 1) := by decide +kernel
theorem dX5_undo_27 : decode cX5_undo 27 = .ok (.aload_n 0, 1) := by decide +kernel
theorem dX5_undo_28 : decode cX5_undo 28 = .ok (.getfield 13, 3) := by decide +kernel
theorem dX5_undo_31 : decode cX5_undo 31 = .ok (.iload_n 1, 1) := by decide +kernel
theorem dX5_undo_32 : decode cX5_undo 32 = .ok (.iaload, 1) := by decide +kernel
theorem dX5_undo_33 : decode cX5_undo 33 = .ok (.iastore, 1) := by decide +kernel
theorem dX5_undo_34 : decode cX5_undo 34 = .ok (.iinc 1 1, 3) := by decide +kernel
theorem dX5_undo_37 : decode cX5_undo 37 = .ok (.goto (-21), 3) := by decide +kernel
theorem dX5_undo_40 : decode cX5_undo 40 = .ok (.aload_n 0, 1) := by decide +kernel
theorem dX5_undo_41 : decode cX5_undo 41 = .ok (.getfield 7, 3) := by decide +kernel
theorem dX5_undo_44 : decode cX5_undo 44 = .ok (.iconst 1, 1) := by decide +kernel
theorem dX5_undo_45 : decode cX5_undo 45 = .ok (.iaload, 1) := by decide +kernel
theorem dX5_undo_46 : decode cX5_undo 46 = .ok (.ireturn, 1) := by decide +kernel
theorem dX5_tear_0 : decode cX5_tear 0 = .ok (.aload_n 0, 1) := by decide +kernel
theorem dX5_tear_1 : decode cX5_tear 1 = .ok (.getfield 330, 3) := by decide +kernel
theorem dX5_tear_4 : decode cX5_tear 4 = .ok (.ifCond .eq 7, 3) := by decide +kernel
theorem dX5_tear_7 : decode cX5_tear 7 = .ok (.iconst 1, 1) := by decide +kernel
theorem dX5_tear_8 : decode cX5_tear 8 = .ok (.goto 4, 3) := by decide +kernel
theorem dX5_tear_11 : decode cX5_tear 11 = .ok (.iconst 0, 1) := by decide +kernel
theorem dX5_tear_12 : decode cX5_tear 12 = .ok (.istore_n 1, 1) := by decide +kernel
theorem dX5_tear_13 : decode cX5_tear 13 = .ok (.aload_n 0, 1) := by decide +kernel
theorem dX5_tear_14 : decode cX5_tear 14 = .ok (.iconst 0, 1) := by decide +kernel
theorem dX5_tear_15 : decode cX5_tear 15 = .ok (.putfield 330, 3) := by decide +kernel
theorem dX5_tear_18 : decode cX5_tear 18 = .ok (.iload_n 1, 1) := by decide +kernel
theorem dX5_tear_19 : decode cX5_tear 19 = .ok (.ireturn, 1) := by decide +kernel
theorem dX5_passes_0 : decode cX5_passes 0 = .ok (.iconst 0, 1) := by decide +kernel
theorem dX5_passes_1 : decode cX5_passes 1 = .ok (.istore_n 1, 1) := by decide +kernel
theorem dX5_passes_2 : decode cX5_passes 2 = .ok (.iconst 0, 1) := by decide +kernel
theorem dX5_passes_3 : decode cX5_passes 3 = .ok (.istore_n 2, 1) := by decide +kernel
theorem dX5_passes_4 : decode cX5_passes 4 = .ok (.iload_n 2, 1) := by decide +kernel
theorem dX5_passes_5 : decode cX5_passes 5 = .ok (.bipush 24, 2) := by decide +kernel
theorem dX5_passes_7 : decode cX5_passes 7 = .ok (.if_icmp .ge 29, 3) := by decide +kernel
theorem dX5_passes_10 : decode cX5_passes 10 = .ok (.iload_n 1, 1) := by decide +kernel
theorem dX5_passes_11 : decode cX5_passes 11 = .ok (.aload_n 0, 1) := by decide +kernel
theorem dX5_passes_12 : decode cX5_passes 12 = .ok (.getfield 7, 3) := by decide +kernel
theorem dX5_passes_15 : decode cX5_passes 15 = .ok (.bipush 7, 2) := by decide +kernel
theorem dX5_passes_17 : decode cX5_passes 17 = .ok (.iload_n 2, 1) := by decide +kernel
theorem dX5_passes_18 : decode cX5_passes 18 = .ok (.iadd, 1) := by decide +kernel
theorem dX5_passes_19 : decode cX5_passes 19 = .ok (.iaload, 1) := by decide +kernel
theorem dX5_passes_20 : decode cX5_passes 20 = .ok (.ifCond .le 7, 3) := by decide +kernel
theorem dX5_passes_23 : decode cX5_passes 23 = .ok (.iconst 1, 1) := by decide +kernel
theorem dX5_passes_24 : decode cX5_passes 24 = .ok (.goto 4, 3) := by decide +kernel
theorem dX5_passes_27 : decode cX5_passes 27 = .ok (.iconst 0, 1) := by decide +kernel
theorem dX5_passes_28 : decode cX5_passes 28 = .ok (.iadd, 1) := by decide +kernel
theorem dX5_passes_29 : decode cX5_passes 29 = .ok (.istore_n 1, 1) := by decide +kernel
theorem dX5_passes_30 : decode cX5_passes 30 = .ok (.iinc 2 1, 3) := by decide +kernel
theorem dX5_passes_33 : decode cX5_passes 33 = .ok (.goto (-29), 3) := by decide +kernel
theorem dX5_passes_36 : decode cX5_passes 36 = .ok (.iload_n 1, 1) := by decide +kernel
theorem dX5_passes_37 : decode cX5_passes 37 = .ok (.ireturn, 1) := by decide +kernel
theorem dX5_count_0 : decode cX5_count 0 = .ok (.iload_n 1, 1) := by decide +kernel
theorem dX5_count_1 : decode cX5_count 1 = .ok (.tableswitch 65 0 4 #[35, 42, 49, 54, 59], 35) := by decide +kernel
theorem dX5_count_36 : decode cX5_count 36 = .ok (.aload_n 0, 1) := by decide +kernel
theorem dX5_count_37 : decode cX5_count 37 = .ok (.getfield 7, 3) := by decide +kernel
theorem dX5_count_40 : decode cX5_count 40 = .ok (.iconst 1, 1) := by decide +kernel
theorem dX5_count_41 : decode cX5_count 41 = .ok (.iaload, 1) := by decide +kernel
theorem dX5_count_42 : decode cX5_count 42 = .ok (.ireturn, 1) := by decide +kernel
theorem dX5_count_43 : decode cX5_count 43 = .ok (.aload_n 0, 1) := by decide +kernel
theorem dX5_count_44 : decode cX5_count 44 = .ok (.getfield 7, 3) := by decide +kernel
theorem dX5_count_47 : decode cX5_count 47 = .ok (.iconst 2, 1) := by decide +kernel
theorem dX5_count_48 : decode cX5_count 48 = .ok (.iaload, 1) := by decide +kernel
theorem dX5_count_49 : decode cX5_count 49 = .ok (.ireturn, 1) := by decide +kernel
theorem dX5_count_50 : decode cX5_count 50 = .ok (.aload_n 0, 1) := by decide +kernel
theorem dX5_count_51 : decode cX5_count 51 = .ok (.getfield 206, 3) := by decide +kernel
theorem dX5_count_54 : decode cX5_count 54 = .ok (.ireturn, 1) := by decide +kernel
theorem dX5_count_55 : decode cX5_count 55 = .ok (.aload_n 0, 1) := by decide +kernel
theorem dX5_count_56 : decode cX5_count 56 = .ok (.invokevirtual 333, 3) := by decide +kernel
theorem dX5_count_59 : decode cX5_count 59 = .ok (.ireturn, 1) := by decide +kernel
theorem dX5_count_60 : decode cX5_count 60 = .ok (.aload_n 0, 1) := by decide +kernel
theorem dX5_count_61 : decode cX5_count 61 = .ok (.iconst 2, 1) := by decide +kernel
theorem dX5_count_62 : decode cX5_count 62 = .ok (.invokevirtual 160, 3) := by decide +kernel
theorem dX5_count_65 : decode cX5_count 65 = .ok (.ireturn, 1) := by decide +kernel
theorem dX5_count_66 : decode cX5_count 66 = .ok (.aload_n 0, 1) := by decide +kernel
theorem dX5_count_67 : decode cX5_count 67 = .ok (.ldc 50, 2) := by decide +kernel
theorem dX5_count_69 : decode cX5_count 69 = .ok (.invokevirtual 74, 3) := by decide +kernel
theorem dX5_count_72 : decode cX5_count 72 = .ok (.ireturn, 1) := by decide +kernel
theorem dX5_status_0 : decode cX5_status 0 = .ok (.iload_n 1, 1) := by decide +kernel
theorem dX5_status_1 : decode cX5_status 1 = .ok (.i2l, 1) := by decide +kernel
theorem dX5_status_2 : decode cX5_status 2 = .ok (.ldc2_w 336, 3) := by decide +kernel
theorem dX5_status_5 : decode cX5_status 5 = .ok (.ldc2_w 338, 3) := by decide +kernel
theorem dX5_status_8 : decode cX5_status 8 = .ok (.invokestatic 53, 3) := by decide +kernel
theorem dX5_status_11 : decode cX5_status 11 = .ok (.ifCond .ne 10, 3) := by decide +kernel
theorem dX5_status_14 : decode cX5_status 14 = .ok (.aload_n 0, 1) := by decide +kernel
theorem dX5_status_15 : decode cX5_status 15 = .ok (.ldc 50, 2) := by decide +kernel
theorem dX5_status_17 : decode cX5_status 17 = .ok (.invokevirtual 74, 3) := by decide +kernel
theorem dX5_status_20 : decode cX5_status 20 = .ok (.ireturn, 1) := by decide +kernel
theorem dX5_status_21 : decode cX5_status 21 = .ok (.iconst 0, 1) := by decide +kernel
theorem dX5_status_22 : decode cX5_status 22 = .ok (.istore_n 2, 1) := by decide +kernel
theorem dX5_status_23 : decode cX5_status 23 = .ok (.iconst 0, 1) := by decide +kernel
theorem dX5_status_24 : decode cX5_status 24 = .ok (.istore_n 3, 1) := by decide +kernel
theorem dX5_status_25 : decode cX5_status 25 = .ok (.iload_n 3, 1) := by decide +kernel
theorem dX5_status_26 : decode cX5_status 26 = .ok (.bipush 7, 2) := by decide +kernel
theorem dX5_status_28 : decode cX5_status 28 = .ok (.if_icmp .ge 31, 3) := by decide +kernel
theorem dX5_status_31 : decode cX5_status 31 = .ok (.iload_n 2, 1) := by decide +kernel
theorem dX5_status_32 : decode cX5_status 32 = .ok (.iload_n 1, 1) := by decide +kernel
theorem dX5_status_33 : decode cX5_status 33 = .ok (.ifCond .lt 8, 3) := by decide +kernel
theorem dX5_status_36 : decode cX5_status 36 = .ok (.iload_n 3, 1) := by decide +kernel
theorem dX5_status_37 : decode cX5_status 37 = .ok (.iload_n 1, 1) := by decide +kernel
theorem dX5_status_38 : decode cX5_status 38 = .ok (.if_icmp .ne 12, 3) := by decide +kernel
theorem dX5_status_41 : decode cX5_status 41 = .ok (.aload_n 0, 1) := by decide +kernel
theorem dX5_status_42 : decode cX5_status 42 = .ok (.getfield 25, 3) := by decide +kernel
theorem dX5_status_45 : decode cX5_status 45 = .ok (.iload_n 3, 1) := by decide +kernel
theorem dX5_status_46 : decode cX5_status 46 = .ok (.iaload, 1) := by decide +kernel
theorem dX5_status_47 : decode cX5_status 47 = .ok (.goto 4, 3) := by decide +kernel
theorem dX5_status_50 : decode cX5_status 50 = .ok (.iconst 0, 1) := by decide +kernel
theorem dX5_status_51 : decode cX5_status 51 = .ok (.iadd, 1) := by decide +kernel
theorem dX5_status_52 : decode cX5_status 52 = .ok (.istore_n 2, 1) := by decide +kernel
theorem dX5_status_53 : decode cX5_status 53 = .ok (.iinc 3 1, 3) := by decide +kernel
theorem dX5_status_56 : decode cX5_status 56 = .ok (.goto (-31), 3) := by decide +kernel
theorem dX5_status_59 : decode cX5_status 59 = .ok (.iload_n 2, 1) := by decide +kernel
theorem dX5_status_60 : decode cX5_status 60 = .ok (.ireturn, 1) := by decide +kernel
