theorem dX4_init_0 : decode cX4_init 0 = .ok (.aload_n 0, 1) := by decide +kernel
theorem dX4_init_1 : decode cX4_init 1 = .ok (.invokespecial 1, 3) := by decide +kernel
theorem dX4_init_4 : decode cX4_init 4 = .ok (.new 7, 3) := by decide +kernel
theorem dX4_init_7 : decode cX4_init 7 = .ok (.dup, 1) := by decide +kernel
theorem dX4_init_8 : decode cX4_init 8 = .ok (.invokespecial 9, 3) := by decide +kernel
theorem dX4_init_11 : decode cX4_init 11 = .ok (.astore_n 1, 1) := by decide +kernel
theorem dX4_init_12 : decode cX4_init 12 = .ok (.aload_n 0, 1) := by decide +kernel
theorem dX4_init_13 : decode cX4_init 13 = .ok (.aload_n 1, 1) := by decide +kernel
theorem dX4_init_14 : decode cX4_init 14 = .ok (.putfield 10, 3) := by decide +kernel
theorem dX4_init_17 : decode cX4_init 17 = .ok (.aload_n 0, 1) := by decide +kernel
theorem dX4_init_18 : decode cX4_init 18 = .ok (.new 7, 3) := by decide +kernel
theorem dX4_init_21 : decode cX4_init 21 = .ok (.dup, 1) := by decide +kernel
theorem dX4_init_22 : decode cX4_init 22 = .ok (.invokespecial 9, 3) := by decide +kernel
theorem dX4_init_25 : decode cX4_init 25 = .ok (.putfield 16, 3) := by decide +kernel
theorem dX4_init_28 : decode cX4_init 28 = .ok (.aload_n 0, 1) := by decide +kernel
theorem dX4_init_29 : decode cX4_init 29 = .ok (.new 19, 3) := by decide +kernel
theorem dX4_init_32 : decode cX4_init 32 = .ok (.dup, 1) := by decide +kernel
theorem dX4_init_33 : decode cX4_init 33 = .ok (.aload_n 1, 1) := by decide +kernel
theorem dX4_init_34 : decode cX4_init 34 = .ok (.invokespecial 21, 3) := by decide +kernel
theorem dX4_init_37 : decode cX4_init 37 = .ok (.putfield 24, 3) := by decide +kernel
theorem dX4_init_40 : decode cX4_init 40 = .ok (.aload_n 0, 1) := by decide +kernel
theorem dX4_init_41 : decode cX4_init 41 = .ok (.new 28, 3) := by decide +kernel
theorem dX4_init_44 : decode cX4_init 44 = .ok (.dup, 1) := by decide +kernel
theorem dX4_init_45 : decode cX4_init 45 = .ok (.invokespecial 30, 3) := by decide +kernel
theorem dX4_init_48 : decode cX4_init 48 = .ok (.putfield 31, 3) := by decide +kernel
theorem dX4_init_51 : decode cX4_init 51 = .ok (.aload_n 0, 1) := by decide +kernel
theorem dX4_init_52 : decode cX4_init 52 = .ok (.iconst 4, 1) := by decide +kernel
theorem dX4_init_53 : decode cX4_init 53 = .ok (.anewarray 35, 3) := by decide +kernel
theorem dX4_init_56 : decode cX4_init 56 = .ok (.putfield 37, 3) := by decide +kernel
theorem dX4_init_59 : decode cX4_init 59 = .ok (.iconst 0, 1) := by decide +kernel
theorem dX4_init_60 : decode cX4_init 60 = .ok (.istore_n 2, 1) := by decide +kernel
theorem dX4_init_61 : decode cX4_init 61 = .ok (.iload_n 2, 1) := by decide +kernel
theorem dX4_init_62 : decode cX4_init 62 = .ok (.iconst 4, 1) := by decide +kernel
theorem dX4_init_63 : decode cX4_init 63 = .ok (.if_icmp .ge 22, 3) := by decide +kernel
theorem dX4_init_66 : decode cX4_init 66 = .ok (.aload_n 0, 1) := by decide +kernel
theorem dX4_init_67 : decode cX4_init 67 = .ok (.getfield 37, 3) := by decide +kernel
theorem dX4_init_70 : decode cX4_init 70 = .ok (.iload_n 2, 1) := by decide +kernel
theorem dX4_init_71 : decode cX4_init 71 = .ok (.new 35, 3) := by decide +kernel
theorem dX4_init_74 : decode cX4_init 74 = .ok (.dup, 1) := by decide +kernel
theorem dX4_init_75 : decode cX4_init 75 = .ok (.invokespecial 41, 3) := by decide +kernel
theorem dX4_init_78 : decode cX4_init 78 = .ok (.aastore, 1) := by decide +kernel
theorem dX4_init_79 : decode cX4_init 79 = .ok (.iinc 2 1, 3) := by decide +kernel
theorem dX4_init_82 : decode cX4_init 82 = .ok (.goto (-21), 3) := by decide +kernel
theorem dX4_init_85 : decode cX4_init 85 = .ok (.aload_n 0, 1) := by decide +kernel
theorem dX4_init_86 : decode cX4_init 86 = .ok (.bipush 7, 2) := by decide +kernel
theorem dX4_init_88 : decode cX4_init 88 = .ok (.newarray .int, 2) := by decide +kernel
theorem dX4_init_90 : decode cX4_init 90 = .ok (.putfield 42, 3) := by decide +kernel
theorem dX4_init_93 : decode cX4_init 93 = .ok (.aload_n 0, 1) := by decide +kernel
theorem dX4_init_94 : decode cX4_init 94 = .ok (.iconst 0, 1) := by decide +kernel
theorem dX4_init_95 : decode cX4_init 95 = .ok (.putfield 46, 3) := by decide +kernel
theorem dX4_init_98 : decode cX4_init 98 = .ok (.return_, 1) := by decide +kernel
theorem dX4_pass_0 : decode cX4_pass 0 = .ok (.iload_n 1, 1) := by decide +kernel
theorem dX4_pass_1 : decode cX4_pass 1 = .ok (.invokestatic 50, 3) := by decide +kernel
theorem dX4_pass_4 : decode cX4_pass 4 = .ok (.ifCond .eq 11, 3) := by decide +kernel
theorem dX4_pass_7 : decode cX4_pass 7 = .ok (.iload_n 2, 1) := by decide +kernel
theorem dX4_pass_8 : decode cX4_pass 8 = .ok (.iload_n 3, 1) := by decide +kernel
theorem dX4_pass_9 : decode cX4_pass 9 = .ok (.invokestatic 54, 3) := by decide +kernel
theorem dX4_pass_12 : decode cX4_pass 12 = .ok (.ifCond .ne 10, 3) := by decide +kernel
theorem dX4_pass_15 : decode cX4_pass 15 = .ok (.aload_n 0, 1) := by decide +kernel
theorem dX4_pass_16 : decode cX4_pass 16 = .ok (.ldc 58, 2) := by decide +kernel
theorem dX4_pass_18 : decode cX4_pass 18 = .ok (.invokevirtual 59, 3) := by decide +kernel
theorem dX4_pass_21 : decode cX4_pass 21 = .ok (.ireturn, 1) := by decide +kernel
theorem dX4_pass_22 : decode cX4_pass 22 = .ok (.aload_n 0, 1) := by decide +kernel
theorem dX4_pass_23 : decode cX4_pass 23 = .ok (.getfield 10, 3) := by decide +kernel
theorem dX4_pass_26 : decode cX4_pass 26 = .ok (.iload_n 1, 1) := by decide +kernel
theorem dX4_pass_27 : decode cX4_pass 27 = .ok (.invokevirtual 63, 3) := by decide +kernel
theorem dX4_pass_30 : decode cX4_pass 30 = .ok (.ifCond .eq 7, 3) := by decide +kernel
theorem dX4_pass_33 : decode cX4_pass 33 = .ok (.iconst 1, 1) := by decide +kernel
theorem dX4_pass_34 : decode cX4_pass 34 = .ok (.goto 4, 3) := by decide +kernel
theorem dX4_pass_37 : decode cX4_pass 37 = .ok (.iconst 0, 1) := by decide +kernel
theorem dX4_pass_38 : decode cX4_pass 38 = .ok (.istore 4, 2) := by decide +kernel
theorem dX4_pass_40 : decode cX4_pass 40 = .ok (.aload_n 0, 1) := by decide +kernel
theorem dX4_pass_41 : decode cX4_pass 41 = .ok (.getfield 10, 3) := by decide +kernel
theorem dX4_pass_44 : decode cX4_pass 44 = .ok (.iload_n 1, 1) := by decide +kernel
theorem dX4_pass_45 : decode cX4_pass 45 = .ok (.iload_n 2, 1) := by decide +kernel
theorem dX4_pass_46 : decode cX4_pass 46 = .ok (.iload_n 3, 1) := by decide +kernel
theorem dX4_pass_47 : decode cX4_pass 47 = .ok (.invokevirtual 66, 3) := by decide +kernel
theorem dX4_pass_50 : decode cX4_pass 50 = .ok (.iload 4, 2) := by decide +kernel
theorem dX4_pass_52 : decode cX4_pass 52 = .ok (.ireturn, 1) := by decide +kernel
theorem dX4_cell_0 : decode cX4_cell 0 = .ok (.iload_n 1, 1) := by decide +kernel
theorem dX4_cell_1 : decode cX4_cell 1 = .ok (.invokestatic 50, 3) := by decide +kernel
theorem dX4_cell_4 : decode cX4_cell 4 = .ok (.ifCond .ne 10, 3) := by decide +kernel
theorem dX4_cell_7 : decode cX4_cell 7 = .ok (.aload_n 0, 1) := by decide +kernel
theorem dX4_cell_8 : decode cX4_cell 8 = .ok (.ldc 58, 2) := by decide +kernel
theorem dX4_cell_10 : decode cX4_cell 10 = .ok (.invokevirtual 59, 3) := by decide +kernel
theorem dX4_cell_13 : decode cX4_cell 13 = .ok (.ireturn, 1) := by decide +kernel
theorem dX4_cell_14 : decode cX4_cell 14 = .ok (.iload_n 2, 1) := by decide +kernel
theorem dX4_cell_15 : decode cX4_cell 15 = .ok (.tableswitch 75 0 3 #[29, 39, 49, 66], 29) := by decide +kernel
theorem dX4_cell_44 : decode cX4_cell 44 = .ok (.aload_n 0, 1) := by decide +kernel
theorem dX4_cell_45 : decode cX4_cell 45 = .ok (.getfield 10, 3) := by decide +kernel
theorem dX4_cell_48 : decode cX4_cell 48 = .ok (.getfield 70, 3) := by decide +kernel
theorem dX4_cell_51 : decode cX4_cell 51 = .ok (.iload_n 1, 1) := by decide +kernel
theorem dX4_cell_52 : decode cX4_cell 52 = .ok (.iaload, 1) := by decide +kernel
theorem dX4_cell_53 : decode cX4_cell 53 = .ok (.ireturn, 1) := by decide +kernel
theorem dX4_cell_54 : decode cX4_cell 54 = .ok (.aload_n 0, 1) := by decide +kernel
theorem dX4_cell_55 : decode cX4_cell 55 = .ok (.getfield 10, 3) := by decide +kernel
theorem dX4_cell_58 : decode cX4_cell 58 = .ok (.getfield 73, 3) := by decide +kernel
theorem dX4_cell_61 : decode cX4_cell 61 = .ok (.iload_n 1, 1) := by decide +kernel
theorem dX4_cell_62 : decode cX4_cell 62 = .ok (.iaload, 1) := by decide +kernel
theorem dX4_cell_63 : decode cX4_cell 63 = .ok (.ireturn, 1) := by decide +kernel
theorem dX4_cell_64 : decode cX4_cell 64 = .ok (.aload_n 0, 1) := by decide +kernel
theorem dX4_cell_65 : decode cX4_cell 65 = .ok (.getfield 10, 3) := by decide +kernel
theorem dX4_cell_68 : decode cX4_cell 68 = .ok (.iload_n 1, 1) := by decide +kernel
theorem dX4_cell_69 : decode cX4_cell 69 = .ok (.invokevirtual 76, 3) := by decide +kernel
theorem dX4_cell_72 : decode cX4_cell 72 = .ok (.ifCond .eq 7, 3) := by decide +kernel
theorem dX4_cell_75 : decode cX4_cell 75 = .ok (.iconst 1, 1) := by decide +kernel
theorem dX4_cell_76 : decode cX4_cell 76 = .ok (.goto 4, 3) := by decide +kernel
theorem dX4_cell_79 : decode cX4_cell 79 = .ok (.iconst 0, 1) := by decide +kernel
theorem dX4_cell_80 : decode cX4_cell 80 = .ok (.ireturn, 1) := by decide +kernel
theorem dX4_cell_81 : decode cX4_cell 81 = .ok (.aload_n 0, 1) := by decide +kernel
theorem dX4_cell_82 : decode cX4_cell 82 = .ok (.getfield 10, 3) := by decide +kernel
theorem dX4_cell_85 : decode cX4_cell 85 = .ok (.iload_n 1, 1) := by decide +kernel
theorem dX4_cell_86 : decode cX4_cell 86 = .ok (.invokevirtual 79, 3) := by decide +kernel
theorem dX4_cell_89 : decode cX4_cell 89 = .ok (.ireturn, 1) := by decide +kernel
theorem dX4_cell_90 : decode cX4_cell 90 = .ok (.aload_n 0, 1) := by decide +kernel
theorem dX4_cell_91 : decode cX4_cell 91 = .ok (.ldc 58, 2) := by decide +kernel
theorem dX4_cell_93 : decode cX4_cell 93 = .ok (.invokevirtual 59, 3) := by decide +kernel
theorem dX4_cell_96 : decode cX4_cell 96 = .ok (.ireturn, 1) := by decide +kernel
theorem dX4_village_0 : decode cX4_village 0 = .ok (.iload_n 1, 1) := by decide +kernel
theorem dX4_village_1 : decode cX4_village 1 = .ok (.invokestatic 50, 3) := by decide +kernel
theorem dX4_village_4 : decode cX4_village 4 = .ok (.ifCond .ne 10, 3) := by decide +kernel
theorem dX4_village_7 : decode cX4_village 7 = .ok (.aload_n 0, 1) := by decide +kernel
theorem dX4_village_8 : decode cX4_village 8 = .ok (.ldc 58, 2) := by decide +kernel
theorem dX4_village_10 : decode cX4_village 10 = .ok (.invokevirtual 59, 3) := by decide +kernel
theorem dX4_village_13 : decode cX4_village 13 = .ok (.ireturn, 1) := by decide +kernel
theorem dX4_village_14 : decode cX4_village 14 = .ok (.aload_n 0, 1) := by decide +kernel
theorem dX4_village_15 : decode cX4_village 15 = .ok (.getfield 10, 3) := by decide +kernel
theorem dX4_village_18 : decode cX4_village 18 = .ok (.getfield 82, 3) := by decide +kernel
theorem dX4_village_21 : decode cX4_village 21 = .ok (.bipush 6, 2) := by decide +kernel
theorem dX4_village_23 : decode cX4_village 23 = .ok (.if_icmp .lt 10, 3) := by decide +kernel
theorem dX4_village_26 : decode cX4_village 26 = .ok (.aload_n 0, 1) := by decide +kernel
theorem dX4_village_27 : decode cX4_village 27 = .ok (.ldc 86, 2) := by decide +kernel
theorem dX4_village_29 : decode cX4_village 29 = .ok (.invokevirtual 59, 3) := by decide +kernel
theorem dX4_village_32 : decode cX4_village 32 = .ok (.ireturn, 1) := by decide +kernel
theorem dX4_village_33 : decode cX4_village 33 = .ok (.aload_n 0, 1) := by decide +kernel
theorem dX4_village_34 : decode cX4_village 34 = .ok (.getfield 10, 3) := by decide +kernel
theorem dX4_village_37 : decode cX4_village 37 = .ok (.iload_n 1, 1) := by decide +kernel
theorem dX4_village_38 : decode cX4_village 38 = .ok (.invokevirtual 87, 3) := by decide +kernel
theorem dX4_village_41 : decode cX4_village 41 = .ok (.ireturn, 1) := by decide +kernel
theorem dX4_villageOf_0 : decode cX4_villageOf 0 = .ok (.aload_n 0, 1) := by decide +kernel
theorem dX4_villageOf_1 : decode cX4_villageOf 1 = .ok (.iload_n 1, 1) := by decide +kernel
theorem dX4_villageOf_2 : decode cX4_villageOf 2 = .ok (.invokevirtual 90, 3) := by decide +kernel
theorem dX4_villageOf_5 : decode cX4_villageOf 5 = .ok (.ifCond .ne 10, 3) := by decide +kernel
theorem dX4_villageOf_8 : decode cX4_villageOf 8 = .ok (.aload_n 0, 1) := by decide +kernel
theorem dX4_villageOf_9 : decode cX4_villageOf 9 = .ok (.ldc 58, 2) := by decide +kernel
theorem dX4_villageOf_11 : decode cX4_villageOf 11 = .ok (.invokevirtual 59, 3) := by decide +kernel
theorem dX4_villageOf_14 : decode cX4_villageOf 14 = .ok (.ireturn, 1) := by decide +kernel
theorem dX4_villageOf_15 : decode cX4_villageOf 15 = .ok (.iload_n 2, 1) := by decide +kernel
theorem dX4_villageOf_16 : decode cX4_villageOf 16 = .ok (.lookupswitch 55 #[(0, 28), (1, 38)], 28) := by decide +kernel
theorem dX4_villageOf_44 : decode cX4_villageOf 44 = .ok (.aload_n 0, 1) := by decide +kernel
theorem dX4_villageOf_45 : decode cX4_villageOf 45 = .ok (.getfield 10, 3) := by decide +kernel
theorem dX4_villageOf_48 : decode cX4_villageOf 48 = .ok (.getfield 93, 3) := by decide +kernel
theorem dX4_villageOf_51 : decode cX4_villageOf 51 = .ok (.iload_n 1, 1) := by decide +kernel
theorem dX4_villageOf_52 : decode cX4_villageOf 52 = .ok (.iaload, 1) := by decide +kernel
theorem dX4_villageOf_53 : decode cX4_villageOf 53 = .ok (.ireturn, 1) := by decide +kernel
theorem dX4_villageOf_54 : decode cX4_villageOf 54 = .ok (.aload_n 0, 1) := by decide +kernel
theorem dX4_villageOf_55 : decode cX4_villageOf 55 = .ok (.getfield 10, 3) := by decide +kernel
theorem dX4_villageOf_58 : decode cX4_villageOf 58 = .ok (.iload_n 1, 1) := by decide +kernel
theorem dX4_villageOf_59 : decode cX4_villageOf 59 = .ok (.invokevirtual 96, 3) := by decide +kernel
theorem dX4_villageOf_62 : decode cX4_villageOf 62 = .ok (.ifCond .eq 7, 3) := by decide +kernel
theorem dX4_villageOf_65 : decode cX4_villageOf 65 = .ok (.iconst 1, 1) := by decide +kernel
theorem dX4_villageOf_66 : decode cX4_villageOf 66 = .ok (.goto 4, 3) := by decide +kernel
theorem dX4_villageOf_69 : decode cX4_villageOf 69 = .ok (.iconst 0, 1) := by decide +kernel
theorem dX4_villageOf_70 : decode cX4_villageOf 70 = .ok (.ireturn, 1) := by decide +kernel
theorem dX4_villageOf_71 : decode cX4_villageOf 71 = .ok (.aload_n 0, 1) := by decide +kernel
theorem dX4_villageOf_72 : decode cX4_villageOf 72 = .ok (.ldc 58, 2) := by decide +kernel
theorem dX4_villageOf_74 : decode cX4_villageOf 74 = .ok (.invokevirtual 59, 3) := by decide +kernel
theorem dX4_villageOf_77 : decode cX4_villageOf 77 = .ok (.ireturn, 1) := by decide +kernel
theorem dX4_order_0 : decode cX4_order 0 = .ok (.iload_n 1, 1) := by decide +kernel
theorem dX4_order_1 : decode cX4_order 1 = .ok (.iconst 0, 1) := by decide +kernel
theorem dX4_order_2 : decode cX4_order 2 = .ok (.iconst 3, 1) := by decide +kernel
theorem dX4_order_3 : decode cX4_order 3 = .ok (.invokestatic 99, 3) := by decide +kernel
theorem dX4_order_6 : decode cX4_order 6 = .ok (.ifCond .eq 14, 3) := by decide +kernel
theorem dX4_order_9 : decode cX4_order 9 = .ok (.iload_n 2, 1) := by decide +kernel
theorem dX4_order_10 : decode cX4_order 10 = .ok (.bipush (-9), 2) := by decide +kernel
theorem dX4_order_12 : decode cX4_order 12 = .ok (.bipush 9, 2) := by decide +kernel
theorem dX4_order_14 : decode cX4_order 14 = .ok (.invokestatic 99, 3) := by decide +kernel
theorem dX4_order_17 : decode cX4_order 17 = .ok (.ifCond .ne 10, 3) := by decide +kernel
theorem dX4_order_20 : decode cX4_order 20 = .ok (.aload_n 0, 1) := by decide +kernel
theorem dX4_order_21 : decode cX4_order 21 = .ok (.ldc 58, 2) := by decide +kernel
theorem dX4_order_23 : decode cX4_order 23 = .ok (.invokevirtual 59, 3) := by decide +kernel
theorem dX4_order_26 : decode cX4_order 26 = .ok (.ireturn, 1) := by decide +kernel
theorem dX4_order_27 : decode cX4_order 27 = .ok (.aload_n 0, 1) := by decide +kernel
theorem dX4_order_28 : decode cX4_order 28 = .ok (.getfield 10, 3) := by decide +kernel
theorem dX4_order_31 : decode cX4_order 31 = .ok (.getfield 103, 3) := by decide +kernel
theorem dX4_order_34 : decode cX4_order 34 = .ok (.iload_n 1, 1) := by decide +kernel
theorem dX4_order_35 : decode cX4_order 35 = .ok (.iaload, 1) := by decide +kernel
theorem dX4_order_36 : decode cX4_order 36 = .ok (.istore_n 3, 1) := by decide +kernel
theorem dX4_order_37 : decode cX4_order 37 = .ok (.aload_n 0, 1) := by decide +kernel
theorem dX4_order_38 : decode cX4_order 38 = .ok (.getfield 10, 3) := by decide +kernel
theorem dX4_order_41 : decode cX4_order 41 = .ok (.getfield 103, 3) := by decide +kernel
theorem dX4_order_44 : decode cX4_order 44 = .ok (.iload_n 1, 1) := by decide +kernel
theorem dX4_order_45 : decode cX4_order 45 = .ok (.iload_n 2, 1) := by decide +kernel
theorem dX4_order_46 : decode cX4_order 46 = .ok (.iastore, 1) := by decide +kernel
theorem dX4_order_47 : decode cX4_order 47 = .ok (.iload_n 3, 1) := by decide +kernel
theorem dX4_order_48 : decode cX4_order 48 = .ok (.ireturn, 1) := by decide +kernel
theorem dX4_range_0 : decode cX4_range 0 = .ok (.iload_n 1, 1) := by decide +kernel
theorem dX4_range_1 : decode cX4_range 1 = .ok (.invokestatic 106, 3) := by decide +kernel
theorem dX4_range_4 : decode cX4_range 4 = .ok (.ifCond .eq 10, 3) := by decide +kernel
theorem dX4_range_7 : decode cX4_range 7 = .ok (.iload_n 2, 1) := by decide +kernel
theorem dX4_range_8 : decode cX4_range 8 = .ok (.invokestatic 50, 3) := by decide +kernel
theorem dX4_range_11 : decode cX4_range 11 = .ok (.ifCond .ne 10, 3) := by decide +kernel
theorem dX4_range_14 : decode cX4_range 14 = .ok (.aload_n 0, 1) := by decide +kernel
theorem dX4_range_15 : decode cX4_range 15 = .ok (.ldc 58, 2) := by decide +kernel
theorem dX4_range_17 : decode cX4_range 17 = .ok (.invokevirtual 59, 3) := by decide +kernel
theorem dX4_range_20 : decode cX4_range 20 = .ok (.ireturn, 1) := by decide +kernel
theorem dX4_range_21 : decode cX4_range 21 = .ok (.aload_n 0, 1) := by decide +kernel
theorem dX4_range_22 : decode cX4_range 22 = .ok (.getfield 10, 3) := by decide +kernel
theorem dX4_range_25 : decode cX4_range 25 = .ok (.iload_n 2, 1) := by decide +kernel
theorem dX4_range_26 : decode cX4_range 26 = .ok (.invokevirtual 79, 3) := by decide +kernel
theorem dX4_range_29 : decode cX4_range 29 = .ok (.ifCond .lt 10, 3) := by decide +kernel
theorem dX4_range_32 : decode cX4_range 32 = .ok (.aload_n 0, 1) := by decide +kernel
theorem dX4_range_33 : decode cX4_range 33 = .ok (.ldc 109, 2) := by decide +kernel
theorem dX4_range_35 : decode cX4_range 35 = .ok (.invokevirtual 59, 3) := by decide +kernel
theorem dX4_range_38 : decode cX4_range 38 = .ok (.ireturn, 1) := by decide +kernel
theorem dX4_range_39 : decode cX4_range 39 = .ok (.aload_n 0, 1) := by decide +kernel
theorem dX4_range_40 : decode cX4_range 40 = .ok (.getfield 10, 3) := by decide +kernel
theorem dX4_range_43 : decode cX4_range 43 = .ok (.getfield 110, 3) := by decide +kernel
theorem dX4_range_46 : decode cX4_range 46 = .ok (.bipush 8, 2) := by decide +kernel
theorem dX4_range_48 : decode cX4_range 48 = .ok (.if_icmp .lt 10, 3) := by decide +kernel
theorem dX4_range_51 : decode cX4_range 51 = .ok (.aload_n 0, 1) := by decide +kernel
theorem dX4_range_52 : decode cX4_range 52 = .ok (.ldc 86, 2) := by decide +kernel
theorem dX4_range_54 : decode cX4_range 54 = .ok (.invokevirtual 59, 3) := by decide +kernel
theorem dX4_range_57 : decode cX4_range 57 = .ok (.ireturn, 1) := by decide +kernel
theorem dX4_range_58 : decode cX4_range 58 = .ok (.aload_n 0, 1) := by decide +kernel
theorem dX4_range_59 : decode cX4_range 59 = .ok (.getfield 10, 3) := by decide +kernel
theorem dX4_range_62 : decode cX4_range 62 = .ok (.iload_n 1, 1) := by decide +kernel
theorem dX4_range_63 : decode cX4_range 63 = .ok (.iload_n 2, 1) := by decide +kernel
theorem dX4_range_64 : decode cX4_range 64 = .ok (.iconst 0, 1) := by decide +kernel
theorem dX4_range_65 : decode cX4_range 65 = .ok (.invokevirtual 113, 3) := by decide +kernel
theorem dX4_range_68 : decode cX4_range 68 = .ok (.ireturn, 1) := by decide +kernel
theorem dX4_of_0 : decode cX4_of 0 = .ok (.aload_n 0, 1) := by decide +kernel
theorem dX4_of_1 : decode cX4_of 1 = .ok (.iload_n 1, 1) := by decide +kernel
theorem dX4_of_2 : decode cX4_of 2 = .ok (.invokevirtual 117, 3) := by decide +kernel
theorem dX4_of_5 : decode cX4_of 5 = .ok (.ifCond .ne 10, 3) := by decide +kernel
theorem dX4_of_8 : decode cX4_of 8 = .ok (.aload_n 0, 1) := by decide +kernel
theorem dX4_of_9 : decode cX4_of 9 = .ok (.ldc 58, 2) := by decide +kernel
theorem dX4_of_11 : decode cX4_of 11 = .ok (.invokevirtual 59, 3) := by decide +kernel
theorem dX4_of_14 : decode cX4_of 14 = .ok (.ireturn, 1) := by decide +kernel
theorem dX4_of_15 : decode cX4_of 15 = .ok (.iload_n 2, 1) := by decide +kernel
theorem dX4_of_16 : decode cX4_of 16 = .ok (.tableswitch 125 0 7 #[48, 58, 68, 78, 88, 98, 107, 116], 48) := by decide +kernel
theorem dX4_of_64 : decode cX4_of 64 = .ok (.aload_n 0, 1) := by decide +kernel
theorem dX4_of_65 : decode cX4_of 65 = .ok (.getfield 10, 3) := by decide +kernel
theorem dX4_of_68 : decode cX4_of 68 = .ok (.getfield 120, 3) := by decide +kernel
theorem dX4_of_71 : decode cX4_of 71 = .ok (.iload_n 1, 1) := by decide +kernel
theorem dX4_of_72 : decode cX4_of 72 = .ok (.iaload, 1) := by decide +kernel
theorem dX4_of_73 : decode cX4_of 73 = .ok (.ireturn, 1) := by decide +kernel
theorem dX4_of_74 : decode cX4_of 74 = .ok (.aload_n 0, 1) := by decide +kernel
theorem dX4_of_75 : decode cX4_of 75 = .ok (.getfield 10, 3) := by decide +kernel
theorem dX4_of_78 : decode cX4_of 78 = .ok (.getfield 123, 3) := by decide +kernel
theorem dX4_of_81 : decode cX4_of 81 = .ok (.iload_n 1, 1) := by decide +kernel
theorem dX4_of_82 : decode cX4_of 82 = .ok (.iaload, 1) := by decide +kernel
theorem dX4_of_83 : decode cX4_of 83 = .ok (.ireturn, 1) := by decide +kernel
theorem dX4_of_84 : decode cX4_of 84 = .ok (.aload_n 0, 1) := by decide +kernel
theorem dX4_of_85 : decode cX4_of 85 = .ok (.getfield 10, 3) := by decide +kernel
theorem dX4_of_88 : decode cX4_of 88 = .ok (.getfield 126, 3) := by decide +kernel
theorem dX4_of_91 : decode cX4_of 91 = .ok (.iload_n 1, 1) := by decide +kernel
theorem dX4_of_92 : decode cX4_of 92 = .ok (.iaload, 1) := by decide +kernel
theorem dX4_of_93 : decode cX4_of 93 = .ok (.ireturn, 1) := by decide +kernel
theorem dX4_of_94 : decode cX4_of 94 = .ok (.aload_n 0, 1) := by decide +kernel
theorem dX4_of_95 : decode cX4_of 95 = .ok (.getfield 10, 3) := by decide +kernel
theorem dX4_of_98 : decode cX4_of 98 = .ok (.getfield 129, 3) := by decide +kernel
theorem dX4_of_101 : decode cX4_of 101 = .ok (.iload_n 1, 1) := by decide +kernel
theorem dX4_of_102 : decode cX4_of 102 = .ok (.iaload, 1) := by decide +kernel
theorem dX4_of_103 : decode cX4_of 103 = .ok (.ireturn, 1) := by decide +kernel
theorem dX4_of_104 : decode cX4_of 104 = .ok (.aload_n 0, 1) := by decide +kernel
theorem dX4_of_105 : decode cX4_of 105 = .ok (.getfield 10, 3) := by decide +kernel
theorem dX4_of_108 : decode cX4_of 108 = .ok (.getfield 132, 3) := by decide +kernel
theorem dX4_of_111 : decode cX4_of 111 = .ok (.iload_n 1, 1) := by decide +kernel
theorem dX4_of_112 : decode cX4_of 112 = .ok (.iaload, 1) := by decide +kernel
theorem dX4_of_113 : decode cX4_of 113 = .ok (.ireturn, 1) := by decide +kernel
theorem dX4_of_114 : decode cX4_of 114 = .ok (.aload_n 0, 1) := by decide +kernel
theorem dX4_of_115 : decode cX4_of 115 = .ok (.getfield 10, 3) := by decide +kernel
theorem dX4_of_118 : decode cX4_of 118 = .ok (.iload_n 1, 1) := by decide +kernel
theorem dX4_of_119 : decode cX4_of 119 = .ok (.invokevirtual 135, 3) := by decide +kernel
theorem dX4_of_122 : decode cX4_of 122 = .ok (.ireturn, 1) := by decide +kernel
theorem dX4_of_123 : decode cX4_of 123 = .ok (.aload_n 0, 1) := by decide +kernel
theorem dX4_of_124 : decode cX4_of 124 = .ok (.getfield 10, 3) := by decide +kernel
theorem dX4_of_127 : decode cX4_of 127 = .ok (.iload_n 1, 1) := by decide +kernel
theorem dX4_of_128 : decode cX4_of 128 = .ok (.invokevirtual 138, 3) := by decide +kernel
theorem dX4_of_131 : decode cX4_of 131 = .ok (.ireturn, 1) := by decide +kernel
theorem dX4_of_132 : decode cX4_of 132 = .ok (.aload_n 0, 1) := by decide +kernel
theorem dX4_of_133 : decode cX4_of 133 = .ok (.getfield 10, 3) := by decide +kernel
theorem dX4_of_136 : decode cX4_of 136 = .ok (.iload_n 1, 1) := by decide +kernel
theorem dX4_of_137 : decode cX4_of 137 = .ok (.invokevirtual 141, 3) := by decide +kernel
theorem dX4_of_140 : decode cX4_of 140 = .ok (.ireturn, 1) := by decide +kernel
theorem dX4_of_141 : decode cX4_of 141 = .ok (.aload_n 0, 1) := by decide +kernel
theorem dX4_of_142 : decode cX4_of 142 = .ok (.ldc 58, 2) := by decide +kernel
theorem dX4_of_144 : decode cX4_of 144 = .ok (.invokevirtual 59, 3) := by decide +kernel
theorem dX4_of_147 : decode cX4_of 147 = .ok (.ireturn, 1) := by decide +kernel
theorem dX4_set_0 : decode cX4_set 0 = .ok (.aload_n 0, 1) := by decide +kernel
theorem dX4_set_1 : decode cX4_set 1 = .ok (.iload_n 1, 1) := by decide +kernel
theorem dX4_set_2 : decode cX4_set 2 = .ok (.invokevirtual 117, 3) := by decide +kernel
theorem dX4_set_5 : decode cX4_set 5 = .ok (.ifCond .ne 10, 3) := by decide +kernel
theorem dX4_set_8 : decode cX4_set 8 = .ok (.aload_n 0, 1) := by decide +kernel
theorem dX4_set_9 : decode cX4_set 9 = .ok (.ldc 58, 2) := by decide +kernel
theorem dX4_set_11 : decode cX4_set 11 = .ok (.invokevirtual 59, 3) := by decide +kernel
theorem dX4_set_14 : decode cX4_set 14 = .ok (.ireturn, 1) := by decide +kernel
theorem dX4_set_15 : decode cX4_set 15 = .ok (.iload_n 2, 1) := by decide +kernel
theorem dX4_set_16 : decode cX4_set 16 = .ok (.iconst 1, 1) := by decide +kernel
theorem dX4_set_17 : decode cX4_set 17 = .ok (.if_icmp .ne 17, 3) := by decide +kernel
theorem dX4_set_20 : decode cX4_set 20 = .ok (.iload_n 3, 1) := by decide +kernel
theorem dX4_set_21 : decode cX4_set 21 = .ok (.invokestatic 50, 3) := by decide +kernel
theorem dX4_set_24 : decode cX4_set 24 = .ok (.ifCond .eq 10, 3) := by decide +kernel
theorem dX4_set_27 : decode cX4_set 27 = .ok (.aload_n 0, 1) := by decide +kernel
theorem dX4_set_28 : decode cX4_set 28 = .ok (.iload_n 1, 1) := by decide +kernel
theorem dX4_set_29 : decode cX4_set 29 = .ok (.iload_n 3, 1) := by decide +kernel
theorem dX4_set_30 : decode cX4_set 30 = .ok (.invokevirtual 144, 3) := by decide +kernel
theorem dX4_set_33 : decode cX4_set 33 = .ok (.ireturn, 1) := by decide +kernel
theorem dX4_set_34 : decode cX4_set 34 = .ok (.iload_n 2, 1) := by decide +kernel
theorem dX4_set_35 : decode cX4_set 35 = .ok (.iconst 2, 1) := by decide +kernel
theorem dX4_set_36 : decode cX4_set 36 = .ok (.if_icmp .ne 37, 3) := by decide +kernel
theorem dX4_set_39 : decode cX4_set 39 = .ok (.iload_n 3, 1) := by decide +kernel
theorem dX4_set_40 : decode cX4_set 40 = .ok (.iconst 0, 1) := by decide +kernel
theorem dX4_set_41 : decode cX4_set 41 = .ok (.bipush 9, 2) := by decide +kernel
theorem dX4_set_43 : decode cX4_set 43 = .ok (.invokestatic 99, 3) := by decide +kernel
theorem dX4_set_46 : decode cX4_set 46 = .ok (.ifCond .eq 27, 3) := by decide +kernel
theorem dX4_set_49 : decode cX4_set 49 = .ok (.aload_n 0, 1) := by decide +kernel
theorem dX4_set_50 : decode cX4_set 50 = .ok (.getfield 10, 3) := by decide +kernel
theorem dX4_set_53 : decode cX4_set 53 = .ok (.getfield 126, 3) := by decide +kernel
theorem dX4_set_56 : decode cX4_set 56 = .ok (.iload_n 1, 1) := by decide +kernel
theorem dX4_set_57 : decode cX4_set 57 = .ok (.iaload, 1) := by decide +kernel
theorem dX4_set_58 : decode cX4_set 58 = .ok (.istore 4, 2) := by decide +kernel
theorem dX4_set_60 : decode cX4_set 60 = .ok (.aload_n 0, 1) := by decide +kernel
theorem dX4_set_61 : decode cX4_set 61 = .ok (.getfield 10, 3) := by decide +kernel
theorem dX4_set_64 : decode cX4_set 64 = .ok (.getfield 126, 3) := by decide +kernel
theorem dX4_set_67 : decode cX4_set 67 = .ok (.iload_n 1, 1) := by decide +kernel
theorem dX4_set_68 : decode cX4_set 68 = .ok (.iload_n 3, 1) := by decide +kernel
theorem dX4_set_69 : decode cX4_set 69 = .ok (.iastore, 1) := by decide +kernel
theorem dX4_set_70 : decode cX4_set 70 = .ok (.iload 4, 2) := by decide +kernel
theorem dX4_set_72 : decode cX4_set 72 = .ok (.ireturn, 1) := by decide +kernel
theorem dX4_set_73 : decode cX4_set 73 = .ok (.aload_n 0, 1) := by decide +kernel
theorem dX4_set_74 : decode cX4_set 74 = .ok (.ldc 58, 2) := by decide +kernel
theorem dX4_set_76 : decode cX4_set 76 = .ok (.invokevirtual 59, 3) := by decide +kernel
theorem dX4_set_79 : decode cX4_set 79 = .ok (.ireturn, 1) := by decide +kernel
theorem dX4_moveTo_0 : decode cX4_moveTo 0 = .ok (.aload_n 0, 1) := by decide +kernel
theorem dX4_moveTo_1 : decode cX4_moveTo 1 = .ok (.getfield 10, 3) := by decide +kernel
theorem dX4_moveTo_4 : decode cX4_moveTo 4 = .ok (.iload_n 2, 1) := by decide +kernel
theorem dX4_moveTo_5 : decode cX4_moveTo 5 = .ok (.invokevirtual 79, 3) := by decide +kernel
theorem dX4_moveTo_8 : decode cX4_moveTo 8 = .ok (.istore_n 3, 1) := by decide +kernel
theorem dX4_moveTo_9 : decode cX4_moveTo 9 = .ok (.iload_n 3, 1) := by decide +kernel
theorem dX4_moveTo_10 : decode cX4_moveTo 10 = .ok (.ifCond .lt 15, 3) := by decide +kernel
theorem dX4_moveTo_13 : decode cX4_moveTo 13 = .ok (.iload_n 3, 1) := by decide +kernel
theorem dX4_moveTo_14 : decode cX4_moveTo 14 = .ok (.iload_n 1, 1) := by decide +kernel
theorem dX4_moveTo_15 : decode cX4_moveTo 15 = .ok (.if_icmp .eq 10, 3) := by decide +kernel
theorem dX4_moveTo_18 : decode cX4_moveTo 18 = .ok (.aload_n 0, 1) := by decide +kernel
theorem dX4_moveTo_19 : decode cX4_moveTo 19 = .ok (.ldc 109, 2) := by decide +kernel
theorem dX4_moveTo_21 : decode cX4_moveTo 21 = .ok (.invokevirtual 59, 3) := by decide +kernel
theorem dX4_moveTo_24 : decode cX4_moveTo 24 = .ok (.ireturn, 1) := by decide +kernel
theorem dX4_moveTo_25 : decode cX4_moveTo 25 = .ok (.aload_n 0, 1) := by decide +kernel
theorem dX4_moveTo_26 : decode cX4_moveTo 26 = .ok (.getfield 10, 3) := by decide +kernel
theorem dX4_moveTo_29 : decode cX4_moveTo 29 = .ok (.getfield 123, 3) := by decide +kernel
theorem dX4_moveTo_32 : decode cX4_moveTo 32 = .ok (.iload_n 1, 1) := by decide +kernel
theorem dX4_moveTo_33 : decode cX4_moveTo 33 = .ok (.iaload, 1) := by decide +kernel
theorem dX4_moveTo_34 : decode cX4_moveTo 34 = .ok (.istore 4, 2) := by decide +kernel
theorem dX4_moveTo_36 : decode cX4_moveTo 36 = .ok (.aload_n 0, 1) := by decide +kernel
theorem dX4_moveTo_37 : decode cX4_moveTo 37 = .ok (.getfield 10, 3) := by decide +kernel
theorem dX4_moveTo_40 : decode cX4_moveTo 40 = .ok (.getfield 123, 3) := by decide +kernel
theorem dX4_moveTo_43 : decode cX4_moveTo 43 = .ok (.iload_n 1, 1) := by decide +kernel
theorem dX4_moveTo_44 : decode cX4_moveTo 44 = .ok (.iload_n 2, 1) := by decide +kernel
theorem dX4_moveTo_45 : decode cX4_moveTo 45 = .ok (.iastore, 1) := by decide +kernel
theorem dX4_moveTo_46 : decode cX4_moveTo 46 = .ok (.iload 4, 2) := by decide +kernel
theorem dX4_moveTo_48 : decode cX4_moveTo 48 = .ok (.ireturn, 1) := by decide +kernel
theorem dX4_turn_0 : decode cX4_turn 0 = .ok (.aload_n 0, 1) := by decide +kernel
theorem dX4_turn_1 : decode cX4_turn 1 = .ok (.iload_n 1, 1) := by decide +kernel
theorem dX4_turn_2 : decode cX4_turn 2 = .ok (.invokevirtual 117, 3) := by decide +kernel
theorem dX4_turn_5 : decode cX4_turn 5 = .ok (.ifCond .eq 10, 3) := by decide +kernel
theorem dX4_turn_8 : decode cX4_turn 8 = .ok (.iload_n 2, 1) := by decide +kernel
theorem dX4_turn_9 : decode cX4_turn 9 = .ok (.invokestatic 106, 3) := by decide +kernel
theorem dX4_turn_12 : decode cX4_turn 12 = .ok (.ifCond .ne 10, 3) := by decide +kernel
theorem dX4_turn_15 : decode cX4_turn 15 = .ok (.aload_n 0, 1) := by decide +kernel
theorem dX4_turn_16 : decode cX4_turn 16 = .ok (.ldc 58, 2) := by decide +kernel
theorem dX4_turn_18 : decode cX4_turn 18 = .ok (.invokevirtual 59, 3) := by decide +kernel
theorem dX4_turn_21 : decode cX4_turn 21 = .ok (.ireturn, 1) := by decide +kernel
theorem dX4_turn_22 : decode cX4_turn 22 = .ok (.aload_n 0, 1) := by decide +kernel
theorem dX4_turn_23 : decode cX4_turn 23 = .ok (.getfield 10, 3) := by decide +kernel
theorem dX4_turn_26 : decode cX4_turn 26 = .ok (.getfield 120, 3) := by decide +kernel
theorem dX4_turn_29 : decode cX4_turn 29 = .ok (.iload_n 1, 1) := by decide +kernel
theorem dX4_turn_30 : decode cX4_turn 30 = .ok (.iaload, 1) := by decide +kernel
theorem dX4_turn_31 : decode cX4_turn 31 = .ok (.istore_n 3, 1) := by decide +kernel
theorem dX4_turn_32 : decode cX4_turn 32 = .ok (.aload_n 0, 1) := by decide +kernel
theorem dX4_turn_33 : decode cX4_turn 33 = .ok (.getfield 10, 3) := by decide +kernel
theorem dX4_turn_36 : decode cX4_turn 36 = .ok (.getfield 120, 3) := by decide +kernel
theorem dX4_turn_39 : decode cX4_turn 39 = .ok (.iload_n 1, 1) := by decide +kernel
theorem dX4_turn_40 : decode cX4_turn 40 = .ok (.iload_n 2, 1) := by decide +kernel
theorem dX4_turn_41 : decode cX4_turn 41 = .ok (.iastore, 1) := by decide +kernel
theorem dX4_turn_42 : decode cX4_turn 42 = .ok (.iload_n 3, 1) := by decide +kernel
theorem dX4_turn_43 : decode cX4_turn 43 = .ok (.ireturn, 1) := by decide +kernel
theorem dX4_as_0 : decode cX4_as 0 = .ok (.aload_n 0, 1) := by decide +kernel
theorem dX4_as_1 : decode cX4_as 1 = .ok (.iload_n 1, 1) := by decide +kernel
theorem dX4_as_2 : decode cX4_as 2 = .ok (.invokevirtual 117, 3) := by decide +kernel
theorem dX4_as_5 : decode cX4_as 5 = .ok (.ifCond .eq 10, 3) := by decide +kernel
theorem dX4_as_8 : decode cX4_as 8 = .ok (.iload_n 2, 1) := by decide +kernel
theorem dX4_as_9 : decode cX4_as 9 = .ok (.invokestatic 106, 3) := by decide +kernel
theorem dX4_as_12 : decode cX4_as 12 = .ok (.ifCond .ne 10, 3) := by decide +kernel
theorem dX4_as_15 : decode cX4_as 15 = .ok (.aload_n 0, 1) := by decide +kernel
theorem dX4_as_16 : decode cX4_as 16 = .ok (.ldc 58, 2) := by decide +kernel
theorem dX4_as_18 : decode cX4_as 18 = .ok (.invokevirtual 59, 3) := by decide +kernel
theorem dX4_as_21 : decode cX4_as 21 = .ok (.ireturn, 1) := by decide +kernel
theorem dX4_as_22 : decode cX4_as 22 = .ok (.aload_n 0, 1) := by decide +kernel
theorem dX4_as_23 : decode cX4_as 23 = .ok (.getfield 10, 3) := by decide +kernel
theorem dX4_as_26 : decode cX4_as 26 = .ok (.getfield 120, 3) := by decide +kernel
theorem dX4_as_29 : decode cX4_as 29 = .ok (.iload_n 1, 1) := by decide +kernel
theorem dX4_as_30 : decode cX4_as 30 = .ok (.iaload, 1) := by decide +kernel
theorem dX4_as_31 : decode cX4_as 31 = .ok (.iload_n 2, 1) := by decide +kernel
theorem dX4_as_32 : decode cX4_as 32 = .ok (.invokestatic 148, 3) := by decide +kernel
theorem dX4_as_35 : decode cX4_as 35 = .ok (.ifCond .ne 10, 3) := by decide +kernel
theorem dX4_as_38 : decode cX4_as 38 = .ok (.aload_n 0, 1) := by decide +kernel
theorem dX4_as_39 : decode cX4_as 39 = .ok (.ldc 151, 2) := by decide +kernel
theorem dX4_as_41 : decode cX4_as 41 = .ok (.invokevirtual 59, 3) := by decide +kernel
theorem dX4_as_44 : decode cX4_as 44 = .ok (.ireturn, 1) := by decide +kernel
theorem dX4_as_45 : decode cX4_as 45 = .ok (.aload_n 0, 1) := by decide +kernel
theorem dX4_as_46 : decode cX4_as 46 = .ok (.getfield 10, 3) := by decide +kernel
theorem dX4_as_49 : decode cX4_as 49 = .ok (.getfield 126, 3) := by decide +kernel
theorem dX4_as_52 : decode cX4_as 52 = .ok (.iload_n 1, 1) := by decide +kernel
theorem dX4_as_53 : decode cX4_as 53 = .ok (.iaload, 1) := by decide +kernel
theorem dX4_as_54 : decode cX4_as 54 = .ok (.ireturn, 1) := by decide +kernel
theorem dX4_level_0 : decode cX4_level 0 = .ok (.aload_n 0, 1) := by decide +kernel
theorem dX4_level_1 : decode cX4_level 1 = .ok (.iload_n 1, 1) := by decide +kernel
theorem dX4_level_2 : decode cX4_level 2 = .ok (.invokevirtual 117, 3) := by decide +kernel
theorem dX4_level_5 : decode cX4_level 5 = .ok (.ifCond .ne 10, 3) := by decide +kernel
theorem dX4_level_8 : decode cX4_level 8 = .ok (.aload_n 0, 1) := by decide +kernel
theorem dX4_level_9 : decode cX4_level 9 = .ok (.ldc 58, 2) := by decide +kernel
theorem dX4_level_11 : decode cX4_level 11 = .ok (.invokevirtual 59, 3) := by decide +kernel
theorem dX4_level_14 : decode cX4_level 14 = .ok (.ireturn, 1) := by decide +kernel
theorem dX4_level_15 : decode cX4_level 15 = .ok (.aload_n 0, 1) := by decide +kernel
theorem dX4_level_16 : decode cX4_level 16 = .ok (.getfield 10, 3) := by decide +kernel
theorem dX4_level_19 : decode cX4_level 19 = .ok (.getfield 129, 3) := by decide +kernel
theorem dX4_level_22 : decode cX4_level 22 = .ok (.iload_n 1, 1) := by decide +kernel
theorem dX4_level_23 : decode cX4_level 23 = .ok (.iaload, 1) := by decide +kernel
theorem dX4_level_24 : decode cX4_level 24 = .ok (.istore_n 2, 1) := by decide +kernel
theorem dX4_level_25 : decode cX4_level 25 = .ok (.aload_n 0, 1) := by decide +kernel
theorem dX4_level_26 : decode cX4_level 26 = .ok (.getfield 10, 3) := by decide +kernel
theorem dX4_level_29 : decode cX4_level 29 = .ok (.iload_n 1, 1) := by decide +kernel
theorem dX4_level_30 : decode cX4_level 30 = .ok (.invokevirtual 152, 3) := by decide +kernel
theorem dX4_level_33 : decode cX4_level 33 = .ok (.iload_n 2, 1) := by decide +kernel
theorem dX4_level_34 : decode cX4_level 34 = .ok (.ireturn, 1) := by decide +kernel
theorem dX4_seasons_0 : decode cX4_seasons 0 = .ok (.iload_n 1, 1) := by decide +kernel
theorem dX4_seasons_1 : decode cX4_seasons 1 = .ok (.iconst 1, 1) := by decide +kernel
theorem dX4_seasons_2 : decode cX4_seasons 2 = .ok (.bipush 80, 2) := by decide +kernel
theorem dX4_seasons_4 : decode cX4_seasons 4 = .ok (.invokestatic 99, 3) := by decide +kernel
theorem dX4_seasons_7 : decode cX4_seasons 7 = .ok (.ifCond .ne 10, 3) := by decide +kernel
theorem dX4_seasons_10 : decode cX4_seasons 10 = .ok (.aload_n 0, 1) := by decide +kernel
theorem dX4_seasons_11 : decode cX4_seasons 11 = .ok (.ldc 58, 2) := by decide +kernel
theorem dX4_seasons_13 : decode cX4_seasons 13 = .ok (.invokevirtual 59, 3) := by decide +kernel
theorem dX4_seasons_16 : decode cX4_seasons 16 = .ok (.ireturn, 1) := by decide +kernel
theorem dX4_seasons_17 : decode cX4_seasons 17 = .ok (.aload_n 0, 1) := by decide +kernel
theorem dX4_seasons_18 : decode cX4_seasons 18 = .ok (.getfield 10, 3) := by decide +kernel
theorem dX4_seasons_21 : decode cX4_seasons 21 = .ok (.getfield 156, 3) := by decide +kernel
theorem dX4_seasons_24 : decode cX4_seasons 24 = .ok (.iload_n 1, 1) := by decide +kernel
theorem dX4_seasons_25 : decode cX4_seasons 25 = .ok (.iadd, 1) := by decide +kernel
theorem dX4_seasons_26 : decode cX4_seasons 26 = .ok (.sipush 9999, 3) := by decide +kernel
theorem dX4_seasons_29 : decode cX4_seasons 29 = .ok (.if_icmp .le 10, 3) := by decide +kernel
theorem dX4_seasons_32 : decode cX4_seasons 32 = .ok (.aload_n 0, 1) := by decide +kernel
theorem dX4_seasons_33 : decode cX4_seasons 33 = .ok (.ldc 109, 2) := by decide +kernel
theorem dX4_seasons_35 : decode cX4_seasons 35 = .ok (.invokevirtual 59, 3) := by decide +kernel
theorem dX4_seasons_38 : decode cX4_seasons 38 = .ok (.ireturn, 1) := by decide +kernel
theorem dX4_seasons_39 : decode cX4_seasons 39 = .ok (.aload_n 0, 1) := by decide +kernel
theorem dX4_seasons_40 : decode cX4_seasons 40 = .ok (.getfield 10, 3) := by decide +kernel
theorem dX4_seasons_43 : decode cX4_seasons 43 = .ok (.iload_n 1, 1) := by decide +kernel
theorem dX4_seasons_44 : decode cX4_seasons 44 = .ok (.invokevirtual 159, 3) := by decide +kernel
theorem dX4_seasons_47 : decode cX4_seasons 47 = .ok (.aload_n 0, 1) := by decide +kernel
theorem dX4_seasons_48 : decode cX4_seasons 48 = .ok (.getfield 10, 3) := by decide +kernel
theorem dX4_seasons_51 : decode cX4_seasons 51 = .ok (.invokevirtual 162, 3) := by decide +kernel
theorem dX4_seasons_54 : decode cX4_seasons 54 = .ok (.ireturn, 1) := by decide +kernel
theorem dX4_now_0 : decode cX4_now 0 = .ok (.iload_n 1, 1) := by decide +kernel
theorem dX4_now_1 : decode cX4_now 1 = .ok (.tableswitch 107 0 6 #[43, 51, 59, 67, 75, 83, 91], 43) := by decide +kernel
theorem dX4_now_44 : decode cX4_now 44 = .ok (.aload_n 0, 1) := by decide +kernel
theorem dX4_now_45 : decode cX4_now 45 = .ok (.getfield 10, 3) := by decide +kernel
theorem dX4_now_48 : decode cX4_now 48 = .ok (.getfield 156, 3) := by decide +kernel
theorem dX4_now_51 : decode cX4_now 51 = .ok (.ireturn, 1) := by decide +kernel
theorem dX4_now_52 : decode cX4_now 52 = .ok (.aload_n 0, 1) := by decide +kernel
theorem dX4_now_53 : decode cX4_now 53 = .ok (.getfield 10, 3) := by decide +kernel
theorem dX4_now_56 : decode cX4_now 56 = .ok (.invokevirtual 162, 3) := by decide +kernel
theorem dX4_now_59 : decode cX4_now 59 = .ok (.ireturn, 1) := by decide +kernel
theorem dX4_now_60 : decode cX4_now 60 = .ok (.aload_n 0, 1) := by decide +kernel
theorem dX4_now_61 : decode cX4_now 61 = .ok (.getfield 10, 3) := by decide +kernel
theorem dX4_now_64 : decode cX4_now 64 = .ok (.invokevirtual 166, 3) := by decide +kernel
theorem dX4_now_67 : decode cX4_now 67 = .ok (.ireturn, 1) := by decide +kernel
theorem dX4_now_68 : decode cX4_now 68 = .ok (.aload_n 0, 1) := by decide +kernel
theorem dX4_now_69 : decode cX4_now 69 = .ok (.getfield 10, 3) := by decide +kernel
theorem dX4_now_72 : decode cX4_now 72 = .ok (.invokevirtual 169, 3) := by decide +kernel
theorem dX4_now_75 : decode cX4_now 75 = .ok (.ireturn, 1) := by decide +kernel
theorem dX4_now_76 : decode cX4_now 76 = .ok (.aload_n 0, 1) := by decide +kernel
theorem dX4_now_77 : decode cX4_now 77 = .ok (.getfield 10, 3) := by decide +kernel
theorem dX4_now_80 : decode cX4_now 80 = .ok (.invokevirtual 172, 3) := by decide +kernel
theorem dX4_now_83 : decode cX4_now 83 = .ok (.ireturn, 1) := by decide +kernel
theorem dX4_now_84 : decode cX4_now 84 = .ok (.aload_n 0, 1) := by decide +kernel
theorem dX4_now_85 : decode cX4_now 85 = .ok (.getfield 10, 3) := by decide +kernel
theorem dX4_now_88 : decode cX4_now 88 = .ok (.invokevirtual 175, 3) := by decide +kernel
theorem dX4_now_91 : decode cX4_now 91 = .ok (.ireturn, 1) := by decide +kernel
theorem dX4_now_92 : decode cX4_now 92 = .ok (.aload_n 0, 1) := by decide +kernel
theorem dX4_now_93 : decode cX4_now 93 = .ok (.getfield 10, 3) := by decide +kernel
theorem dX4_now_96 : decode cX4_now 96 = .ok (.invokevirtual 178, 3) := by decide +kernel
theorem dX4_now_99 : decode cX4_now 99 = .ok (.ifCond .eq 7, 3) := by decide +kernel
theorem dX4_now_102 : decode cX4_now 102 = .ok (.iconst 1, 1) := by decide +kernel
theorem dX4_now_103 : decode cX4_now 103 = .ok (.goto 4, 3) := by decide +kernel
theorem dX4_now_106 : decode cX4_now 106 = .ok (.iconst 0, 1) := by decide +kernel
theorem dX4_now_107 : decode cX4_now 107 = .ok (.ireturn, 1) := by decide +kernel
theorem dX4_now_108 : decode cX4_now 108 = .ok (.aload_n 0, 1) := by decide +kernel
theorem dX4_now_109 : decode cX4_now 109 = .ok (.ldc 58, 2) := by decide +kernel
theorem dX4_now_111 : decode cX4_now 111 = .ok (.invokevirtual 59, 3) := by decide +kernel
theorem dX4_now_114 : decode cX4_now 114 = .ok (.ireturn, 1) := by decide +kernel
theorem dX4_on_0 : decode cX4_on 0 = .ok (.aload_n 0, 1) := by decide +kernel
theorem dX4_on_1 : decode cX4_on 1 = .ok (.iload_n 1, 1) := by decide +kernel
theorem dX4_on_2 : decode cX4_on 2 = .ok (.invokevirtual 117, 3) := by decide +kernel
theorem dX4_on_5 : decode cX4_on 5 = .ok (.ifCond .eq 13, 3) := by decide +kernel
theorem dX4_on_8 : decode cX4_on 8 = .ok (.iload_n 2, 1) := by decide +kernel
theorem dX4_on_9 : decode cX4_on 9 = .ok (.iconst 0, 1) := by decide +kernel
theorem dX4_on_10 : decode cX4_on 10 = .ok (.bipush 80, 2) := by decide +kernel
theorem dX4_on_12 : decode cX4_on 12 = .ok (.invokestatic 99, 3) := by decide +kernel
theorem dX4_on_15 : decode cX4_on 15 = .ok (.ifCond .ne 10, 3) := by decide +kernel
theorem dX4_on_18 : decode cX4_on 18 = .ok (.aload_n 0, 1) := by decide +kernel
theorem dX4_on_19 : decode cX4_on 19 = .ok (.ldc 58, 2) := by decide +kernel
theorem dX4_on_21 : decode cX4_on 21 = .ok (.invokevirtual 59, 3) := by decide +kernel
theorem dX4_on_24 : decode cX4_on 24 = .ok (.ireturn, 1) := by decide +kernel
theorem dX4_on_25 : decode cX4_on 25 = .ok (.iload_n 3, 1) := by decide +kernel
theorem dX4_on_26 : decode cX4_on 26 = .ok (.tableswitch 68 0 2 #[26, 40, 54], 26) := by decide +kernel
theorem dX4_on_52 : decode cX4_on 52 = .ok (.aload_n 0, 1) := by decide +kernel
theorem dX4_on_53 : decode cX4_on 53 = .ok (.getfield 24, 3) := by decide +kernel
theorem dX4_on_56 : decode cX4_on 56 = .ok (.iload_n 2, 1) := by decide +kernel
theorem dX4_on_57 : decode cX4_on 57 = .ok (.invokevirtual 182, 3) := by decide +kernel
theorem dX4_on_60 : decode cX4_on 60 = .ok (.getfield 123, 3) := by decide +kernel
theorem dX4_on_63 : decode cX4_on 63 = .ok (.iload_n 1, 1) := by decide +kernel
theorem dX4_on_64 : decode cX4_on 64 = .ok (.iaload, 1) := by decide +kernel
theorem dX4_on_65 : decode cX4_on 65 = .ok (.ireturn, 1) := by decide +kernel
theorem dX4_on_66 : decode cX4_on 66 = .ok (.aload_n 0, 1) := by decide +kernel
theorem dX4_on_67 : decode cX4_on 67 = .ok (.getfield 24, 3) := by decide +kernel
theorem dX4_on_70 : decode cX4_on 70 = .ok (.iload_n 2, 1) := by decide +kernel
theorem dX4_on_71 : decode cX4_on 71 = .ok (.invokevirtual 182, 3) := by decide +kernel
theorem dX4_on_74 : decode cX4_on 74 = .ok (.getfield 129, 3) := by decide +kernel
theorem dX4_on_77 : decode cX4_on 77 = .ok (.iload_n 1, 1) := by decide +kernel
theorem dX4_on_78 : decode cX4_on 78 = .ok (.iaload, 1) := by decide +kernel
theorem dX4_on_79 : decode cX4_on 79 = .ok (.ireturn, 1) := by decide +kernel
theorem dX4_on_80 : decode cX4_on 80 = .ok (.aload_n 0, 1) := by decide +kernel
theorem dX4_on_81 : decode cX4_on 81 = .ok (.getfield 24, 3) := by decide +kernel
theorem dX4_on_84 : decode cX4_on 84 = .ok (.iload_n 2, 1) := by decide +kernel
theorem dX4_on_85 : decode cX4_on 85 = .ok (.invokevirtual 182, 3) := by decide +kernel
theorem dX4_on_88 : decode cX4_on 88 = .ok (.getfield 132, 3) := by decide +kernel
theorem dX4_on_91 : decode cX4_on 91 = .ok (.iload_n 1, 1) := by decide +kernel
theorem dX4_on_92 : decode cX4_on 92 = .ok (.iaload, 1) := by decide +kernel
theorem dX4_on_93 : decode cX4_on 93 = .ok (.ireturn, 1) := by decide +kernel
theorem dX4_on_94 : decode cX4_on 94 = .ok (.aload_n 0, 1) := by decide +kernel
theorem dX4_on_95 : decode cX4_on 95 = .ok (.ldc 58, 2) := by decide +kernel
theorem dX4_on_97 : decode cX4_on 97 = .ok (.invokevirtual 59, 3) := by decide +kernel
theorem dX4_on_100 : decode cX4_on 100 = .ok (.ireturn, 1) := by decide +kernel
theorem dX4_when_0 : decode cX4_when 0 = .ok (.aload_n 0, 1) := by decide +kernel
theorem dX4_when_1 : decode cX4_when 1 = .ok (.iload_n 1, 1) := by decide +kernel
theorem dX4_when_2 : decode cX4_when 2 = .ok (.invokevirtual 117, 3) := by decide +kernel
theorem dX4_when_5 : decode cX4_when 5 = .ok (.ifCond .eq 10, 3) := by decide +kernel
theorem dX4_when_8 : decode cX4_when 8 = .ok (.iload_n 2, 1) := by decide +kernel
theorem dX4_when_9 : decode cX4_when 9 = .ok (.invokestatic 50, 3) := by decide +kernel
theorem dX4_when_12 : decode cX4_when 12 = .ok (.ifCond .ne 10, 3) := by decide +kernel
theorem dX4_when_15 : decode cX4_when 15 = .ok (.aload_n 0, 1) := by decide +kernel
theorem dX4_when_16 : decode cX4_when 16 = .ok (.ldc 58, 2) := by decide +kernel
theorem dX4_when_18 : decode cX4_when 18 = .ok (.invokevirtual 59, 3) := by decide +kernel
theorem dX4_when_21 : decode cX4_when 21 = .ok (.ireturn, 1) := by decide +kernel
theorem dX4_when_22 : decode cX4_when 22 = .ok (.aload_n 0, 1) := by decide +kernel
theorem dX4_when_23 : decode cX4_when 23 = .ok (.aload_n 0, 1) := by decide +kernel
theorem dX4_when_24 : decode cX4_when 24 = .ok (.getfield 24, 3) := by decide +kernel
theorem dX4_when_27 : decode cX4_when 27 = .ok (.iload_n 1, 1) := by decide +kernel
theorem dX4_when_28 : decode cX4_when 28 = .ok (.iload_n 2, 1) := by decide +kernel
theorem dX4_when_29 : decode cX4_when 29 = .ok (.invokevirtual 186, 3) := by decide +kernel
theorem dX4_when_32 : decode cX4_when 32 = .ok (.invokevirtual 189, 3) := by decide +kernel
theorem dX4_when_35 : decode cX4_when 35 = .ok (.ireturn, 1) := by decide +kernel
theorem dX4_lit_0 : decode cX4_lit 0 = .ok (.aload_n 0, 1) := by decide +kernel
theorem dX4_lit_1 : decode cX4_lit 1 = .ok (.iload_n 1, 1) := by decide +kernel
theorem dX4_lit_2 : decode cX4_lit 2 = .ok (.invokevirtual 90, 3) := by decide +kernel
theorem dX4_lit_5 : decode cX4_lit 5 = .ok (.ifCond .ne 10, 3) := by decide +kernel
theorem dX4_lit_8 : decode cX4_lit 8 = .ok (.aload_n 0, 1) := by decide +kernel
theorem dX4_lit_9 : decode cX4_lit 9 = .ok (.ldc 58, 2) := by decide +kernel
theorem dX4_lit_11 : decode cX4_lit 11 = .ok (.invokevirtual 59, 3) := by decide +kernel
theorem dX4_lit_14 : decode cX4_lit 14 = .ok (.ireturn, 1) := by decide +kernel
theorem dX4_lit_15 : decode cX4_lit 15 = .ok (.aload_n 0, 1) := by decide +kernel
theorem dX4_lit_16 : decode cX4_lit 16 = .ok (.aload_n 0, 1) := by decide +kernel
theorem dX4_lit_17 : decode cX4_lit 17 = .ok (.getfield 24, 3) := by decide +kernel
theorem dX4_lit_20 : decode cX4_lit 20 = .ok (.iload_n 1, 1) := by decide +kernel
theorem dX4_lit_21 : decode cX4_lit 21 = .ok (.invokevirtual 192, 3) := by decide +kernel
theorem dX4_lit_24 : decode cX4_lit 24 = .ok (.invokevirtual 189, 3) := by decide +kernel
theorem dX4_lit_27 : decode cX4_lit 27 = .ok (.ireturn, 1) := by decide +kernel
theorem dX4_sun_0 : decode cX4_sun 0 = .ok (.aload_n 0, 1) := by decide +kernel
theorem dX4_sun_1 : decode cX4_sun 1 = .ok (.iload_n 1, 1) := by decide +kernel
theorem dX4_sun_2 : decode cX4_sun 2 = .ok (.invokevirtual 90, 3) := by decide +kernel
theorem dX4_sun_5 : decode cX4_sun 5 = .ok (.ifCond .eq 13, 3) := by decide +kernel
theorem dX4_sun_8 : decode cX4_sun 8 = .ok (.iload_n 2, 1) := by decide +kernel
theorem dX4_sun_9 : decode cX4_sun 9 = .ok (.iconst 0, 1) := by decide +kernel
theorem dX4_sun_10 : decode cX4_sun 10 = .ok (.bipush 80, 2) := by decide +kernel
theorem dX4_sun_12 : decode cX4_sun 12 = .ok (.invokestatic 99, 3) := by decide +kernel
theorem dX4_sun_15 : decode cX4_sun 15 = .ok (.ifCond .ne 10, 3) := by decide +kernel
theorem dX4_sun_18 : decode cX4_sun 18 = .ok (.aload_n 0, 1) := by decide +kernel
theorem dX4_sun_19 : decode cX4_sun 19 = .ok (.ldc 58, 2) := by decide +kernel
theorem dX4_sun_21 : decode cX4_sun 21 = .ok (.invokevirtual 59, 3) := by decide +kernel
theorem dX4_sun_24 : decode cX4_sun 24 = .ok (.ireturn, 1) := by decide +kernel
theorem dX4_sun_25 : decode cX4_sun 25 = .ok (.aload_n 0, 1) := by decide +kernel
theorem dX4_sun_26 : decode cX4_sun 26 = .ok (.getfield 24, 3) := by decide +kernel
theorem dX4_sun_29 : decode cX4_sun 29 = .ok (.iload_n 1, 1) := by decide +kernel
theorem dX4_sun_30 : decode cX4_sun 30 = .ok (.iload_n 2, 1) := by decide +kernel
theorem dX4_sun_31 : decode cX4_sun 31 = .ok (.invokevirtual 195, 3) := by decide +kernel
theorem dX4_sun_34 : decode cX4_sun 34 = .ok (.ireturn, 1) := by decide +kernel
theorem dX4_stands_0 : decode cX4_stands 0 = .ok (.aload_n 0, 1) := by decide +kernel
theorem dX4_stands_1 : decode cX4_stands 1 = .ok (.getfield 24, 3) := by decide +kernel
theorem dX4_stands_4 : decode cX4_stands 4 = .ok (.invokevirtual 198, 3) := by decide +kernel
theorem dX4_stands_7 : decode cX4_stands 7 = .ok (.ireturn, 1) := by decide +kernel
theorem dX4_ahead_0 : decode cX4_ahead 0 = .ok (.aload_n 0, 1) := by decide +kernel
theorem dX4_ahead_1 : decode cX4_ahead 1 = .ok (.iload_n 1, 1) := by decide +kernel
theorem dX4_ahead_2 : decode cX4_ahead 2 = .ok (.invokevirtual 117, 3) := by decide +kernel
theorem dX4_ahead_5 : decode cX4_ahead 5 = .ok (.ifCond .ne 10, 3) := by decide +kernel
theorem dX4_ahead_8 : decode cX4_ahead 8 = .ok (.aload_n 0, 1) := by decide +kernel
theorem dX4_ahead_9 : decode cX4_ahead 9 = .ok (.ldc 58, 2) := by decide +kernel
theorem dX4_ahead_11 : decode cX4_ahead 11 = .ok (.invokevirtual 59, 3) := by decide +kernel
theorem dX4_ahead_14 : decode cX4_ahead 14 = .ok (.ireturn, 1) := by decide +kernel
theorem dX4_ahead_15 : decode cX4_ahead 15 = .ok (.aload_n 0, 1) := by decide +kernel
theorem dX4_ahead_16 : decode cX4_ahead 16 = .ok (.getfield 10, 3) := by decide +kernel
theorem dX4_ahead_19 : decode cX4_ahead 19 = .ok (.iload_n 1, 1) := by decide +kernel
theorem dX4_ahead_20 : decode cX4_ahead 20 = .ok (.invokevirtual 201, 3) := by decide +kernel
theorem dX4_ahead_23 : decode cX4_ahead 23 = .ok (.ireturn, 1) := by decide +kernel
theorem dX4_file_0 : decode cX4_file 0 = .ok (.aload_n 0, 1) := by decide +kernel
theorem dX4_file_1 : decode cX4_file 1 = .ok (.iload_n 1, 1) := by decide +kernel
theorem dX4_file_2 : decode cX4_file 2 = .ok (.invokevirtual 117, 3) := by decide +kernel
theorem dX4_file_5 : decode cX4_file 5 = .ok (.ifCond .ne 10, 3) := by decide +kernel
theorem dX4_file_8 : decode cX4_file 8 = .ok (.aload_n 0, 1) := by decide +kernel
theorem dX4_file_9 : decode cX4_file 9 = .ok (.ldc 58, 2) := by decide +kernel
theorem dX4_file_11 : decode cX4_file 11 = .ok (.invokevirtual 59, 3) := by decide +kernel
theorem dX4_file_14 : decode cX4_file 14 = .ok (.ireturn, 1) := by decide +kernel
theorem dX4_file_15 : decode cX4_file 15 = .ok (.iconst 0, 1) := by decide +kernel
theorem dX4_file_16 : decode cX4_file 16 = .ok (.istore_n 2, 1) := by decide +kernel
theorem dX4_file_17 : decode cX4_file 17 = .ok (.iload_n 1, 1) := by decide +kernel
theorem dX4_file_18 : decode cX4_file 18 = .ok (.istore_n 3, 1) := by decide +kernel
theorem dX4_file_19 : decode cX4_file 19 = .ok (.iconst 0, 1) := by decide +kernel
theorem dX4_file_20 : decode cX4_file 20 = .ok (.istore 4, 2) := by decide +kernel
theorem dX4_file_22 : decode cX4_file 22 = .ok (.iload 4, 2) := by decide +kernel
theorem dX4_file_24 : decode cX4_file 24 = .ok (.bipush 8, 2) := by decide +kernel
theorem dX4_file_26 : decode cX4_file 26 = .ok (.if_icmp .ge 32, 3) := by decide +kernel
theorem dX4_file_29 : decode cX4_file 29 = .ok (.aload_n 0, 1) := by decide +kernel
theorem dX4_file_30 : decode cX4_file 30 = .ok (.iload_n 3, 1) := by decide +kernel
theorem dX4_file_31 : decode cX4_file 31 = .ok (.invokevirtual 117, 3) := by decide +kernel
theorem dX4_file_34 : decode cX4_file 34 = .ok (.ifCond .eq 24, 3) := by decide +kernel
theorem dX4_file_37 : decode cX4_file 37 = .ok (.iload_n 2, 1) := by decide +kernel
theorem dX4_file_38 : decode cX4_file 38 = .ok (.iconst 1, 1) := by decide +kernel
theorem dX4_file_39 : decode cX4_file 39 = .ok (.iload_n 3, 1) := by decide +kernel
theorem dX4_file_40 : decode cX4_file 40 = .ok (.ishl, 1) := by decide +kernel
theorem dX4_file_41 : decode cX4_file 41 = .ok (.ior, 1) := by decide +kernel
theorem dX4_file_42 : decode cX4_file 42 = .ok (.istore_n 2, 1) := by decide +kernel
theorem dX4_file_43 : decode cX4_file 43 = .ok (.aload_n 0, 1) := by decide +kernel
theorem dX4_file_44 : decode cX4_file 44 = .ok (.getfield 10, 3) := by decide +kernel
theorem dX4_file_47 : decode cX4_file 47 = .ok (.iload_n 3, 1) := by decide +kernel
theorem dX4_file_48 : decode cX4_file 48 = .ok (.invokevirtual 201, 3) := by decide +kernel
theorem dX4_file_51 : decode cX4_file 51 = .ok (.istore_n 3, 1) := by decide +kernel
theorem dX4_file_52 : decode cX4_file 52 = .ok (.iinc 4 1, 3) := by decide +kernel
theorem dX4_file_55 : decode cX4_file 55 = .ok (.goto (-33), 3) := by decide +kernel
theorem dX4_file_58 : decode cX4_file 58 = .ok (.iload_n 2, 1) := by decide +kernel
theorem dX4_file_59 : decode cX4_file 59 = .ok (.ireturn, 1) := by decide +kernel
theorem dX4_frees_0 : decode cX4_frees 0 = .ok (.aload_n 0, 1) := by decide +kernel
theorem dX4_frees_1 : decode cX4_frees 1 = .ok (.aload_n 0, 1) := by decide +kernel
theorem dX4_frees_2 : decode cX4_frees 2 = .ok (.getfield 24, 3) := by decide +kernel
theorem dX4_frees_5 : decode cX4_frees 5 = .ok (.invokevirtual 204, 3) := by decide +kernel
theorem dX4_frees_8 : decode cX4_frees 8 = .ok (.invokevirtual 189, 3) := by decide +kernel
theorem dX4_frees_11 : decode cX4_frees 11 = .ok (.ireturn, 1) := by decide +kernel
theorem dX4_haste_0 : decode cX4_haste 0 = .ok (.aload_n 0, 1) := by decide +kernel
theorem dX4_haste_1 : decode cX4_haste 1 = .ok (.iload_n 1, 1) := by decide +kernel
theorem dX4_haste_2 : decode cX4_haste 2 = .ok (.invokevirtual 117, 3) := by decide +kernel
theorem dX4_haste_5 : decode cX4_haste 5 = .ok (.ifCond .eq 24, 3) := by decide +kernel
theorem dX4_haste_8 : decode cX4_haste 8 = .ok (.iload_n 2, 1) := by decide +kernel
theorem dX4_haste_9 : decode cX4_haste 9 = .ok (.iconst 0, 1) := by decide +kernel
theorem dX4_haste_10 : decode cX4_haste 10 = .ok (.sipush 999, 3) := by decide +kernel
theorem dX4_haste_13 : decode cX4_haste 13 = .ok (.invokestatic 99, 3) := by decide +kernel
theorem dX4_haste_16 : decode cX4_haste 16 = .ok (.ifCond .eq 13, 3) := by decide +kernel
theorem dX4_haste_19 : decode cX4_haste 19 = .ok (.iload_n 3, 1) := by decide +kernel
theorem dX4_haste_20 : decode cX4_haste 20 = .ok (.iconst 0, 1) := by decide +kernel
theorem dX4_haste_21 : decode cX4_haste 21 = .ok (.bipush 40, 2) := by decide +kernel
theorem dX4_haste_23 : decode cX4_haste 23 = .ok (.invokestatic 99, 3) := by decide +kernel
theorem dX4_haste_26 : decode cX4_haste 26 = .ok (.ifCond .ne 10, 3) := by decide +kernel
theorem dX4_haste_29 : decode cX4_haste 29 = .ok (.aload_n 0, 1) := by decide +kernel
theorem dX4_haste_30 : decode cX4_haste 30 = .ok (.ldc 58, 2) := by decide +kernel
theorem dX4_haste_32 : decode cX4_haste 32 = .ok (.invokevirtual 59, 3) := by decide +kernel
theorem dX4_haste_35 : decode cX4_haste 35 = .ok (.ireturn, 1) := by decide +kernel
theorem dX4_haste_36 : decode cX4_haste 36 = .ok (.aload_n 0, 1) := by decide +kernel
theorem dX4_haste_37 : decode cX4_haste 37 = .ok (.aload_n 0, 1) := by decide +kernel
theorem dX4_haste_38 : decode cX4_haste 38 = .ok (.getfield 24, 3) := by decide +kernel
theorem dX4_haste_41 : decode cX4_haste 41 = .ok (.iload_n 1, 1) := by decide +kernel
theorem dX4_haste_42 : decode cX4_haste 42 = .ok (.iload_n 2, 1) := by decide +kernel
theorem dX4_haste_43 : decode cX4_haste 43 = .ok (.iload_n 3, 1) := by decide +kernel
theorem dX4_haste_44 : decode cX4_haste 44 = .ok (.invokevirtual 207, 3) := by decide +kernel
theorem dX4_haste_47 : decode cX4_haste 47 = .ok (.invokevirtual 189, 3) := by decide +kernel
theorem dX4_haste_50 : decode cX4_haste 50 = .ok (.ireturn, 1) := by decide +kernel
theorem dX4_best_0 : decode cX4_best 0 = .ok (.iload_n 1, 1) := by decide +kernel
theorem dX4_best_1 : decode cX4_best 1 = .ok (.iconst 0, 1) := by decide +kernel
theorem dX4_best_2 : decode cX4_best 2 = .ok (.iconst 3, 1) := by decide +kernel
theorem dX4_best_3 : decode cX4_best 3 = .ok (.invokestatic 99, 3) := by decide +kernel
theorem dX4_best_6 : decode cX4_best 6 = .ok (.ifCond .eq 13, 3) := by decide +kernel
theorem dX4_best_9 : decode cX4_best 9 = .ok (.iload_n 2, 1) := by decide +kernel
theorem dX4_best_10 : decode cX4_best 10 = .ok (.iconst 0, 1) := by decide +kernel
theorem dX4_best_11 : decode cX4_best 11 = .ok (.bipush 40, 2) := by decide +kernel
theorem dX4_best_13 : decode cX4_best 13 = .ok (.invokestatic 99, 3) := by decide +kernel
theorem dX4_best_16 : decode cX4_best 16 = .ok (.ifCond .ne 10, 3) := by decide +kernel
theorem dX4_best_19 : decode cX4_best 19 = .ok (.aload_n 0, 1) := by decide +kernel
theorem dX4_best_20 : decode cX4_best 20 = .ok (.ldc 58, 2) := by decide +kernel
theorem dX4_best_22 : decode cX4_best 22 = .ok (.invokevirtual 59, 3) := by decide +kernel
theorem dX4_best_25 : decode cX4_best 25 = .ok (.ireturn, 1) := by decide +kernel
theorem dX4_best_26 : decode cX4_best 26 = .ok (.aload_n 0, 1) := by decide +kernel
theorem dX4_best_27 : decode cX4_best 27 = .ok (.getfield 24, 3) := by decide +kernel
theorem dX4_best_30 : decode cX4_best 30 = .ok (.iload_n 1, 1) := by decide +kernel
theorem dX4_best_31 : decode cX4_best 31 = .ok (.iload_n 2, 1) := by decide +kernel
theorem dX4_best_32 : decode cX4_best 32 = .ok (.invokevirtual 210, 3) := by decide +kernel
theorem dX4_best_35 : decode cX4_best 35 = .ok (.ireturn, 1) := by decide +kernel
theorem dX4_start_0 : decode cX4_start 0 = .ok (.aload_n 0, 1) := by decide +kernel
theorem dX4_start_1 : decode cX4_start 1 = .ok (.iload_n 1, 1) := by decide +kernel
theorem dX4_start_2 : decode cX4_start 2 = .ok (.invokevirtual 117, 3) := by decide +kernel
theorem dX4_start_5 : decode cX4_start 5 = .ok (.ifCond .eq 13, 3) := by decide +kernel
theorem dX4_start_8 : decode cX4_start 8 = .ok (.iload_n 2, 1) := by decide +kernel
theorem dX4_start_9 : decode cX4_start 9 = .ok (.iconst 0, 1) := by decide +kernel
theorem dX4_start_10 : decode cX4_start 10 = .ok (.bipush 40, 2) := by decide +kernel
theorem dX4_start_12 : decode cX4_start 12 = .ok (.invokestatic 99, 3) := by decide +kernel
theorem dX4_start_15 : decode cX4_start 15 = .ok (.ifCond .ne 10, 3) := by decide +kernel
theorem dX4_start_18 : decode cX4_start 18 = .ok (.aload_n 0, 1) := by decide +kernel
theorem dX4_start_19 : decode cX4_start 19 = .ok (.ldc 58, 2) := by decide +kernel
theorem dX4_start_21 : decode cX4_start 21 = .ok (.invokevirtual 59, 3) := by decide +kernel
theorem dX4_start_24 : decode cX4_start 24 = .ok (.ireturn, 1) := by decide +kernel
theorem dX4_start_25 : decode cX4_start 25 = .ok (.aload_n 0, 1) := by decide +kernel
theorem dX4_start_26 : decode cX4_start 26 = .ok (.getfield 24, 3) := by decide +kernel
theorem dX4_start_29 : decode cX4_start 29 = .ok (.iload_n 1, 1) := by decide +kernel
theorem dX4_start_30 : decode cX4_start 30 = .ok (.iload_n 2, 1) := by decide +kernel
theorem dX4_start_31 : decode cX4_start 31 = .ok (.invokevirtual 213, 3) := by decide +kernel
theorem dX4_start_34 : decode cX4_start 34 = .ok (.ireturn, 1) := by decide +kernel
theorem dX4_kind_0 : decode cX4_kind 0 = .ok (.aload_n 0, 1) := by decide +kernel
theorem dX4_kind_1 : decode cX4_kind 1 = .ok (.iload_n 1, 1) := by decide +kernel
theorem dX4_kind_2 : decode cX4_kind 2 = .ok (.invokevirtual 117, 3) := by decide +kernel
theorem dX4_kind_5 : decode cX4_kind 5 = .ok (.ifCond .eq 13, 3) := by decide +kernel
theorem dX4_kind_8 : decode cX4_kind 8 = .ok (.iload_n 2, 1) := by decide +kernel
theorem dX4_kind_9 : decode cX4_kind 9 = .ok (.iconst 0, 1) := by decide +kernel
theorem dX4_kind_10 : decode cX4_kind 10 = .ok (.bipush 40, 2) := by decide +kernel
theorem dX4_kind_12 : decode cX4_kind 12 = .ok (.invokestatic 99, 3) := by decide +kernel
theorem dX4_kind_15 : decode cX4_kind 15 = .ok (.ifCond .ne 10, 3) := by decide +kernel
theorem dX4_kind_18 : decode cX4_kind 18 = .ok (.aload_n 0, 1) := by decide +kernel
theorem dX4_kind_19 : decode cX4_kind 19 = .ok (.ldc 58, 2) := by decide +kernel
theorem dX4_kind_21 : decode cX4_kind 21 = .ok (.invokevirtual 59, 3) := by decide +kernel
theorem dX4_kind_24 : decode cX4_kind 24 = .ok (.ireturn, 1) := by decide +kernel
theorem dX4_kind_25 : decode cX4_kind 25 = .ok (.aload_n 0, 1) := by decide +kernel
theorem dX4_kind_26 : decode cX4_kind 26 = .ok (.getfield 24, 3) := by decide +kernel
theorem dX4_kind_29 : decode cX4_kind 29 = .ok (.iload_n 1, 1) := by decide +kernel
theorem dX4_kind_30 : decode cX4_kind 30 = .ok (.iload_n 2, 1) := by decide +kernel
theorem dX4_kind_31 : decode cX4_kind 31 = .ok (.invokevirtual 216, 3) := by decide +kernel
theorem dX4_kind_34 : decode cX4_kind 34 = .ok (.ireturn, 1) := by decide +kernel
theorem dX4_swap_0 : decode cX4_swap 0 = .ok (.iload_n 1, 1) := by decide +kernel
theorem dX4_swap_1 : decode cX4_swap 1 = .ok (.iconst 0, 1) := by decide +kernel
theorem dX4_swap_2 : decode cX4_swap 2 = .ok (.bipush 40, 2) := by decide +kernel
theorem dX4_swap_4 : decode cX4_swap 4 = .ok (.invokestatic 99, 3) := by decide +kernel
theorem dX4_swap_7 : decode cX4_swap 7 = .ok (.ifCond .ne 10, 3) := by decide +kernel
theorem dX4_swap_10 : decode cX4_swap 10 = .ok (.aload_n 0, 1) := by decide +kernel
theorem dX4_swap_11 : decode cX4_swap 11 = .ok (.ldc 58, 2) := by decide +kernel
theorem dX4_swap_13 : decode cX4_swap 13 = .ok (.invokevirtual 59, 3) := by decide +kernel
theorem dX4_swap_16 : decode cX4_swap 16 = .ok (.ireturn, 1) := by decide +kernel
theorem dX4_swap_17 : decode cX4_swap 17 = .ok (.aload_n 0, 1) := by decide +kernel
theorem dX4_swap_18 : decode cX4_swap 18 = .ok (.aload_n 0, 1) := by decide +kernel
theorem dX4_swap_19 : decode cX4_swap 19 = .ok (.getfield 24, 3) := by decide +kernel
theorem dX4_swap_22 : decode cX4_swap 22 = .ok (.iload_n 1, 1) := by decide +kernel
theorem dX4_swap_23 : decode cX4_swap 23 = .ok (.invokevirtual 219, 3) := by decide +kernel
theorem dX4_swap_26 : decode cX4_swap 26 = .ok (.invokevirtual 189, 3) := by decide +kernel
theorem dX4_swap_29 : decode cX4_swap 29 = .ok (.ireturn, 1) := by decide +kernel
theorem dX4_journey_0 : decode cX4_journey 0 = .ok (.iload_n 1, 1) := by decide +kernel
theorem dX4_journey_1 : decode cX4_journey 1 = .ok (.invokestatic 50, 3) := by decide +kernel
theorem dX4_journey_4 : decode cX4_journey 4 = .ok (.ifCond .eq 10, 3) := by decide +kernel
theorem dX4_journey_7 : decode cX4_journey 7 = .ok (.iload_n 2, 1) := by decide +kernel
theorem dX4_journey_8 : decode cX4_journey 8 = .ok (.invokestatic 50, 3) := by decide +kernel
theorem dX4_journey_11 : decode cX4_journey 11 = .ok (.ifCond .ne 10, 3) := by decide +kernel
theorem dX4_journey_14 : decode cX4_journey 14 = .ok (.aload_n 0, 1) := by decide +kernel
theorem dX4_journey_15 : decode cX4_journey 15 = .ok (.ldc 58, 2) := by decide +kernel
theorem dX4_journey_17 : decode cX4_journey 17 = .ok (.invokevirtual 59, 3) := by decide +kernel
theorem dX4_journey_20 : decode cX4_journey 20 = .ok (.ireturn, 1) := by decide +kernel
theorem dX4_journey_21 : decode cX4_journey 21 = .ok (.aload_n 0, 1) := by decide +kernel
theorem dX4_journey_22 : decode cX4_journey 22 = .ok (.aload_n 0, 1) := by decide +kernel
theorem dX4_journey_23 : decode cX4_journey 23 = .ok (.getfield 24, 3) := by decide +kernel
theorem dX4_journey_26 : decode cX4_journey 26 = .ok (.iload_n 1, 1) := by decide +kernel
theorem dX4_journey_27 : decode cX4_journey 27 = .ok (.iload_n 2, 1) := by decide +kernel
theorem dX4_journey_28 : decode cX4_journey 28 = .ok (.invokevirtual 222, 3) := by decide +kernel
theorem dX4_journey_31 : decode cX4_journey 31 = .ok (.invokevirtual 189, 3) := by decide +kernel
theorem dX4_journey_34 : decode cX4_journey 34 = .ok (.ireturn, 1) := by decide +kernel
theorem dX4_sets_0 : decode cX4_sets 0 = .ok (.iload_n 1, 1) := by decide +kernel
theorem dX4_sets_1 : decode cX4_sets 1 = .ok (.invokestatic 50, 3) := by decide +kernel
theorem dX4_sets_4 : decode cX4_sets 4 = .ok (.ifCond .eq 10, 3) := by decide +kernel
theorem dX4_sets_7 : decode cX4_sets 7 = .ok (.iload_n 2, 1) := by decide +kernel
theorem dX4_sets_8 : decode cX4_sets 8 = .ok (.invokestatic 50, 3) := by decide +kernel
theorem dX4_sets_11 : decode cX4_sets 11 = .ok (.ifCond .ne 10, 3) := by decide +kernel
theorem dX4_sets_14 : decode cX4_sets 14 = .ok (.aload_n 0, 1) := by decide +kernel
theorem dX4_sets_15 : decode cX4_sets 15 = .ok (.ldc 58, 2) := by decide +kernel
theorem dX4_sets_17 : decode cX4_sets 17 = .ok (.invokevirtual 59, 3) := by decide +kernel
theorem dX4_sets_20 : decode cX4_sets 20 = .ok (.ireturn, 1) := by decide +kernel
theorem dX4_sets_21 : decode cX4_sets 21 = .ok (.aload_n 0, 1) := by decide +kernel
theorem dX4_sets_22 : decode cX4_sets 22 = .ok (.aload_n 0, 1) := by decide +kernel
theorem dX4_sets_23 : decode cX4_sets 23 = .ok (.getfield 24, 3) := by decide +kernel
theorem dX4_sets_26 : decode cX4_sets 26 = .ok (.iload_n 1, 1) := by decide +kernel
theorem dX4_sets_27 : decode cX4_sets 27 = .ok (.iload_n 2, 1) := by decide +kernel
theorem dX4_sets_28 : decode cX4_sets 28 = .ok (.invokevirtual 225, 3) := by decide +kernel
theorem dX4_sets_31 : decode cX4_sets 31 = .ok (.invokevirtual 189, 3) := by decide +kernel
theorem dX4_sets_34 : decode cX4_sets 34 = .ok (.ireturn, 1) := by decide +kernel
theorem dX4_feed_0 : decode cX4_feed 0 = .ok (.iload_n 2, 1) := by decide +kernel
theorem dX4_feed_1 : decode cX4_feed 1 = .ok (.iconst 1, 1) := by decide +kernel
theorem dX4_feed_2 : decode cX4_feed 2 = .ok (.iconst 4, 1) := by decide +kernel
theorem dX4_feed_3 : decode cX4_feed 3 = .ok (.invokestatic 99, 3) := by decide +kernel
theorem dX4_feed_6 : decode cX4_feed 6 = .ok (.ifCond .ne 10, 3) := by decide +kernel
theorem dX4_feed_9 : decode cX4_feed 9 = .ok (.aload_n 0, 1) := by decide +kernel
theorem dX4_feed_10 : decode cX4_feed 10 = .ok (.ldc 58, 2) := by decide +kernel
theorem dX4_feed_12 : decode cX4_feed 12 = .ok (.invokevirtual 59, 3) := by decide +kernel
theorem dX4_feed_15 : decode cX4_feed 15 = .ok (.ireturn, 1) := by decide +kernel
theorem dX4_feed_16 : decode cX4_feed 16 = .ok (.aload_n 0, 1) := by decide +kernel
theorem dX4_feed_17 : decode cX4_feed 17 = .ok (.getfield 31, 3) := by decide +kernel
theorem dX4_feed_20 : decode cX4_feed 20 = .ok (.getfield 228, 3) := by decide +kernel
theorem dX4_feed_23 : decode cX4_feed 23 = .ok (.iload_n 2, 1) := by decide +kernel
theorem dX4_feed_24 : decode cX4_feed 24 = .ok (.iadd, 1) := by decide +kernel
theorem dX4_feed_25 : decode cX4_feed 25 = .ok (.bipush 120, 2) := by decide +kernel
theorem dX4_feed_27 : decode cX4_feed 27 = .ok (.if_icmp .le 10, 3) := by decide +kernel
theorem dX4_feed_30 : decode cX4_feed 30 = .ok (.aload_n 0, 1) := by decide +kernel
theorem dX4_feed_31 : decode cX4_feed 31 = .ok (.ldc 86, 2) := by decide +kernel
theorem dX4_feed_33 : decode cX4_feed 33 = .ok (.invokevirtual 59, 3) := by decide +kernel
theorem dX4_feed_36 : decode cX4_feed 36 = .ok (.ireturn, 1) := by decide +kernel
theorem dX4_feed_37 : decode cX4_feed 37 = .ok (.aload_n 0, 1) := by decide +kernel
theorem dX4_feed_38 : decode cX4_feed 38 = .ok (.getfield 31, 3) := by decide +kernel
theorem dX4_feed_41 : decode cX4_feed 41 = .ok (.iload_n 1, 1) := by decide +kernel
theorem dX4_feed_42 : decode cX4_feed 42 = .ok (.iload_n 2, 1) := by decide +kernel
theorem dX4_feed_43 : decode cX4_feed 43 = .ok (.invokevirtual 231, 3) := by decide +kernel
theorem dX4_feed_46 : decode cX4_feed 46 = .ok (.aload_n 0, 1) := by decide +kernel
theorem dX4_feed_47 : decode cX4_feed 47 = .ok (.getfield 31, 3) := by decide +kernel
theorem dX4_feed_50 : decode cX4_feed 50 = .ok (.getfield 228, 3) := by decide +kernel
theorem dX4_feed_53 : decode cX4_feed 53 = .ok (.ireturn, 1) := by decide +kernel
theorem dX4_wipe_0 : decode cX4_wipe 0 = .ok (.aload_n 0, 1) := by decide +kernel
theorem dX4_wipe_1 : decode cX4_wipe 1 = .ok (.getfield 31, 3) := by decide +kernel
theorem dX4_wipe_4 : decode cX4_wipe 4 = .ok (.getfield 228, 3) := by decide +kernel
theorem dX4_wipe_7 : decode cX4_wipe 7 = .ok (.istore_n 1, 1) := by decide +kernel
theorem dX4_wipe_8 : decode cX4_wipe 8 = .ok (.aload_n 0, 1) := by decide +kernel
theorem dX4_wipe_9 : decode cX4_wipe 9 = .ok (.getfield 31, 3) := by decide +kernel
theorem dX4_wipe_12 : decode cX4_wipe 12 = .ok (.iconst 0, 1) := by decide +kernel
theorem dX4_wipe_13 : decode cX4_wipe 13 = .ok (.putfield 228, 3) := by decide +kernel
theorem dX4_wipe_16 : decode cX4_wipe 16 = .ok (.iload_n 1, 1) := by decide +kernel
theorem dX4_wipe_17 : decode cX4_wipe 17 = .ok (.ireturn, 1) := by decide +kernel
theorem dX4_land_0 : decode cX4_land 0 = .ok (.aload_n 0, 1) := by decide +kernel
theorem dX4_land_1 : decode cX4_land 1 = .ok (.getfield 24, 3) := by decide +kernel
theorem dX4_land_4 : decode cX4_land 4 = .ok (.invokevirtual 235, 3) := by decide +kernel
theorem dX4_land_7 : decode cX4_land 7 = .ok (.astore_n 1, 1) := by decide +kernel
theorem dX4_land_8 : decode cX4_land 8 = .ok (.aload_n 0, 1) := by decide +kernel
theorem dX4_land_9 : decode cX4_land 9 = .ok (.getfield 31, 3) := by decide +kernel
theorem dX4_land_12 : decode cX4_land 12 = .ok (.aload_n 1, 1) := by decide +kernel
theorem dX4_land_13 : decode cX4_land 13 = .ok (.invokevirtual 239, 3) := by decide +kernel
theorem dX4_land_16 : decode cX4_land 16 = .ok (.istore_n 2, 1) := by decide +kernel
theorem dX4_land_17 : decode cX4_land 17 = .ok (.aload_n 0, 1) := by decide +kernel
theorem dX4_land_18 : decode cX4_land 18 = .ok (.getfield 31, 3) := by decide +kernel
theorem dX4_land_21 : decode cX4_land 21 = .ok (.iconst 0, 1) := by decide +kernel
theorem dX4_land_22 : decode cX4_land 22 = .ok (.putfield 228, 3) := by decide +kernel
theorem dX4_land_25 : decode cX4_land 25 = .ok (.iload_n 2, 1) := by decide +kernel
theorem dX4_land_26 : decode cX4_land 26 = .ok (.ifCond .lt 11, 3) := by decide +kernel
theorem dX4_land_29 : decode cX4_land 29 = .ok (.aload_n 0, 1) := by decide +kernel
theorem dX4_land_30 : decode cX4_land 30 = .ok (.getfield 10, 3) := by decide +kernel
theorem dX4_land_33 : decode cX4_land 33 = .ok (.aload_n 1, 1) := by decide +kernel
theorem dX4_land_34 : decode cX4_land 34 = .ok (.invokevirtual 243, 3) := by decide +kernel
theorem dX4_land_37 : decode cX4_land 37 = .ok (.iload_n 2, 1) := by decide +kernel
theorem dX4_land_38 : decode cX4_land 38 = .ok (.ireturn, 1) := by decide +kernel
theorem dX4_sheet_0 : decode cX4_sheet 0 = .ok (.aload_n 0, 1) := by decide +kernel
theorem dX4_sheet_1 : decode cX4_sheet 1 = .ok (.iload_n 1, 1) := by decide +kernel
theorem dX4_sheet_2 : decode cX4_sheet 2 = .ok (.invokevirtual 246, 3) := by decide +kernel
theorem dX4_sheet_5 : decode cX4_sheet 5 = .ok (.astore 4, 2) := by decide +kernel
theorem dX4_sheet_7 : decode cX4_sheet 7 = .ok (.aload 4, 2) := by decide +kernel
theorem dX4_sheet_9 : decode cX4_sheet 9 = .ok (.ifnull 10, 3) := by decide +kernel
theorem dX4_sheet_12 : decode cX4_sheet 12 = .ok (.iload_n 2, 1) := by decide +kernel
theorem dX4_sheet_13 : decode cX4_sheet 13 = .ok (.invokestatic 250, 3) := by decide +kernel
theorem dX4_sheet_16 : decode cX4_sheet 16 = .ok (.ifCond .ne 10, 3) := by decide +kernel
theorem dX4_sheet_19 : decode cX4_sheet 19 = .ok (.aload_n 0, 1) := by decide +kernel
theorem dX4_sheet_20 : decode cX4_sheet 20 = .ok (.ldc 58, 2) := by decide +kernel
theorem dX4_sheet_22 : decode cX4_sheet 22 = .ok (.invokevirtual 59, 3) := by decide +kernel
theorem dX4_sheet_25 : decode cX4_sheet 25 = .ok (.ireturn, 1) := by decide +kernel
theorem dX4_sheet_26 : decode cX4_sheet 26 = .ok (.iload_n 3, 1) := by decide +kernel
theorem dX4_sheet_27 : decode cX4_sheet 27 = .ok (.ifCond .ge 10, 3) := by decide +kernel
theorem dX4_sheet_30 : decode cX4_sheet 30 = .ok (.aload_n 0, 1) := by decide +kernel
theorem dX4_sheet_31 : decode cX4_sheet 31 = .ok (.ldc 253, 2) := by decide +kernel
theorem dX4_sheet_33 : decode cX4_sheet 33 = .ok (.invokevirtual 59, 3) := by decide +kernel
theorem dX4_sheet_36 : decode cX4_sheet 36 = .ok (.ireturn, 1) := by decide +kernel
theorem dX4_sheet_37 : decode cX4_sheet 37 = .ok (.iload_n 3, 1) := by decide +kernel
theorem dX4_sheet_38 : decode cX4_sheet 38 = .ok (.bipush 40, 2) := by decide +kernel
theorem dX4_sheet_40 : decode cX4_sheet 40 = .ok (.if_icmp .le 10, 3) := by decide +kernel
theorem dX4_sheet_43 : decode cX4_sheet 43 = .ok (.aload_n 0, 1) := by decide +kernel
theorem dX4_sheet_44 : decode cX4_sheet 44 = .ok (.ldc 58, 2) := by decide +kernel
theorem dX4_sheet_46 : decode cX4_sheet 46 = .ok (.invokevirtual 59, 3) := by decide +kernel
theorem dX4_sheet_49 : decode cX4_sheet 49 = .ok (.ireturn, 1) := by decide +kernel
theorem dX4_sheet_50 : decode cX4_sheet 50 = .ok (.aload 4, 2) := by decide +kernel
theorem dX4_sheet_52 : decode cX4_sheet 52 = .ok (.iload_n 2, 1) := by decide +kernel
theorem dX4_sheet_53 : decode cX4_sheet 53 = .ok (.iload_n 3, 1) := by decide +kernel
theorem dX4_sheet_54 : decode cX4_sheet 54 = .ok (.invokevirtual 254, 3) := by decide +kernel
theorem dX4_sheet_57 : decode cX4_sheet 57 = .ok (.aload 4, 2) := by decide +kernel
theorem dX4_sheet_59 : decode cX4_sheet 59 = .ok (.getfield 257, 3) := by decide +kernel
theorem dX4_sheet_62 : decode cX4_sheet 62 = .ok (.ireturn, 1) := by decide +kernel
theorem dX4_write_0 : decode cX4_write 0 = .ok (.aload_n 0, 1) := by decide +kernel
theorem dX4_write_1 : decode cX4_write 1 = .ok (.iload_n 1, 1) := by decide +kernel
theorem dX4_write_2 : decode cX4_write 2 = .ok (.invokevirtual 246, 3) := by decide +kernel
theorem dX4_write_5 : decode cX4_write 5 = .ok (.astore 5, 2) := by decide +kernel
theorem dX4_write_7 : decode cX4_write 7 = .ok (.aload 5, 2) := by decide +kernel
theorem dX4_write_9 : decode cX4_write 9 = .ok (.ifnonnull 11, 3) := by decide +kernel
theorem dX4_write_12 : decode cX4_write 12 = .ok (.aload_n 0, 1) := by decide +kernel
theorem dX4_write_13 : decode cX4_write 13 = .ok (.ldc 58, 2) := by decide +kernel
theorem dX4_write_15 : decode cX4_write 15 = .ok (.invokevirtual 59, 3) := by decide +kernel
theorem dX4_write_18 : decode cX4_write 18 = .ok (.i2l, 1) := by decide +kernel
theorem dX4_write_19 : decode cX4_write 19 = .ok (.lreturn, 1) := by decide +kernel
theorem dX4_write_20 : decode cX4_write 20 = .ok (.aload 5, 2) := by decide +kernel
theorem dX4_write_22 : decode cX4_write 22 = .ok (.invokevirtual 258, 3) := by decide +kernel
theorem dX4_write_25 : decode cX4_write 25 = .ok (.ifCond .eq 12, 3) := by decide +kernel
theorem dX4_write_28 : decode cX4_write 28 = .ok (.aload_n 0, 1) := by decide +kernel
theorem dX4_write_29 : decode cX4_write 29 = .ok (.ldc_w 261, 3) := by decide +kernel
theorem dX4_write_32 : decode cX4_write 32 = .ok (.invokevirtual 59, 3) := by decide +kernel
theorem dX4_write_35 : decode cX4_write 35 = .ok (.i2l, 1) := by decide +kernel
theorem dX4_write_36 : decode cX4_write 36 = .ok (.lreturn, 1) := by decide +kernel
theorem dX4_write_37 : decode cX4_write 37 = .ok (.iload_n 2, 1) := by decide +kernel
theorem dX4_write_38 : decode cX4_write 38 = .ok (.iconst 0, 1) := by decide +kernel
theorem dX4_write_39 : decode cX4_write 39 = .ok (.aload 5, 2) := by decide +kernel
theorem dX4_write_41 : decode cX4_write 41 = .ok (.getfield 257, 3) := by decide +kernel
theorem dX4_write_44 : decode cX4_write 44 = .ok (.iconst 1, 1) := by decide +kernel
theorem dX4_write_45 : decode cX4_write 45 = .ok (.isub, 1) := by decide +kernel
theorem dX4_write_46 : decode cX4_write 46 = .ok (.invokestatic 99, 3) := by decide +kernel
theorem dX4_write_49 : decode cX4_write 49 = .ok (.ifCond .ne 11, 3) := by decide +kernel
theorem dX4_write_52 : decode cX4_write 52 = .ok (.aload_n 0, 1) := by decide +kernel
theorem dX4_write_53 : decode cX4_write 53 = .ok (.ldc 58, 2) := by decide +kernel
theorem dX4_write_55 : decode cX4_write 55 = .ok (.invokevirtual 59, 3) := by decide +kernel
theorem dX4_write_58 : decode cX4_write 58 = .ok (.i2l, 1) := by decide +kernel
theorem dX4_write_59 : decode cX4_write 59 = .ok (.lreturn, 1) := by decide +kernel
theorem dX4_write_60 : decode cX4_write 60 = .ok (.aload 5, 2) := by decide +kernel
theorem dX4_write_62 : decode cX4_write 62 = .ok (.getfield 262, 3) := by decide +kernel
theorem dX4_write_65 : decode cX4_write 65 = .ok (.iload_n 2, 1) := by decide +kernel
theorem dX4_write_66 : decode cX4_write 66 = .ok (.laload, 1) := by decide +kernel
theorem dX4_write_67 : decode cX4_write 67 = .ok (.lstore 6, 2) := by decide +kernel
theorem dX4_write_69 : decode cX4_write 69 = .ok (.aload 5, 2) := by decide +kernel
theorem dX4_write_71 : decode cX4_write 71 = .ok (.iload_n 2, 1) := by decide +kernel
theorem dX4_write_72 : decode cX4_write 72 = .ok (.lload_n 3, 1) := by decide +kernel
theorem dX4_write_73 : decode cX4_write 73 = .ok (.invokevirtual 266, 3) := by decide +kernel
theorem dX4_write_76 : decode cX4_write 76 = .ok (.lload 6, 2) := by decide +kernel
theorem dX4_write_78 : decode cX4_write 78 = .ok (.lreturn, 1) := by decide +kernel
theorem dX4_copy_0 : decode cX4_copy 0 = .ok (.aload_n 0, 1) := by decide +kernel
theorem dX4_copy_1 : decode cX4_copy 1 = .ok (.iload_n 1, 1) := by decide +kernel
theorem dX4_copy_2 : decode cX4_copy 2 = .ok (.invokevirtual 246, 3) := by decide +kernel
theorem dX4_copy_5 : decode cX4_copy 5 = .ok (.astore 6, 2) := by decide +kernel
theorem dX4_copy_7 : decode cX4_copy 7 = .ok (.aload_n 0, 1) := by decide +kernel
theorem dX4_copy_8 : decode cX4_copy 8 = .ok (.iload_n 3, 1) := by decide +kernel
theorem dX4_copy_9 : decode cX4_copy 9 = .ok (.invokevirtual 246, 3) := by decide +kernel
theorem dX4_copy_12 : decode cX4_copy 12 = .ok (.astore 7, 2) := by decide +kernel
theorem dX4_copy_14 : decode cX4_copy 14 = .ok (.aload 6, 2) := by decide +kernel
theorem dX4_copy_16 : decode cX4_copy 16 = .ok (.ifnull 8, 3) := by decide +kernel
theorem dX4_copy_19 : decode cX4_copy 19 = .ok (.aload 7, 2) := by decide +kernel
theorem dX4_copy_21 : decode cX4_copy 21 = .ok (.ifnonnull 10, 3) := by decide +kernel
theorem dX4_copy_24 : decode cX4_copy 24 = .ok (.aload_n 0, 1) := by decide +kernel
theorem dX4_copy_25 : decode cX4_copy 25 = .ok (.ldc 58, 2) := by decide +kernel
theorem dX4_copy_27 : decode cX4_copy 27 = .ok (.invokevirtual 59, 3) := by decide +kernel
theorem dX4_copy_30 : decode cX4_copy 30 = .ok (.ireturn, 1) := by decide +kernel
theorem dX4_copy_31 : decode cX4_copy 31 = .ok (.aload 6, 2) := by decide +kernel
theorem dX4_copy_33 : decode cX4_copy 33 = .ok (.invokevirtual 258, 3) := by decide +kernel
theorem dX4_copy_36 : decode cX4_copy 36 = .ok (.ifCond .ne 11, 3) := by decide +kernel
theorem dX4_copy_39 : decode cX4_copy 39 = .ok (.aload 7, 2) := by decide +kernel
theorem dX4_copy_41 : decode cX4_copy 41 = .ok (.invokevirtual 258, 3) := by decide +kernel
theorem dX4_copy_44 : decode cX4_copy 44 = .ok (.ifCond .eq 11, 3) := by decide +kernel
theorem dX4_copy_47 : decode cX4_copy 47 = .ok (.aload_n 0, 1) := by decide +kernel
theorem dX4_copy_48 : decode cX4_copy 48 = .ok (.ldc_w 261, 3) := by decide +kernel
theorem dX4_copy_51 : decode cX4_copy 51 = .ok (.invokevirtual 59, 3) := by decide +kernel
theorem dX4_copy_54 : decode cX4_copy 54 = .ok (.ireturn, 1) := by decide +kernel
theorem dX4_copy_55 : decode cX4_copy 55 = .ok (.aload 6, 2) := by decide +kernel
theorem dX4_copy_57 : decode cX4_copy 57 = .ok (.getfield 270, 3) := by decide +kernel
theorem dX4_copy_60 : decode cX4_copy 60 = .ok (.aload 7, 2) := by decide +kernel
theorem dX4_copy_62 : decode cX4_copy 62 = .ok (.getfield 270, 3) := by decide +kernel
theorem dX4_copy_65 : decode cX4_copy 65 = .ok (.if_icmp .eq 10, 3) := by decide +kernel
theorem dX4_copy_68 : decode cX4_copy 68 = .ok (.aload_n 0, 1) := by decide +kernel
theorem dX4_copy_69 : decode cX4_copy 69 = .ok (.ldc 151, 2) := by decide +kernel
theorem dX4_copy_71 : decode cX4_copy 71 = .ok (.invokevirtual 59, 3) := by decide +kernel
theorem dX4_copy_74 : decode cX4_copy 74 = .ok (.ireturn, 1) := by decide +kernel
theorem dX4_copy_75 : decode cX4_copy 75 = .ok (.aload 6, 2) := by decide +kernel
theorem dX4_copy_77 : decode cX4_copy 77 = .ok (.iload_n 2, 1) := by decide +kernel
theorem dX4_copy_78 : decode cX4_copy 78 = .ok (.iload 5, 2) := by decide +kernel
theorem dX4_copy_80 : decode cX4_copy 80 = .ok (.invokevirtual 273, 3) := by decide +kernel
theorem dX4_copy_83 : decode cX4_copy 83 = .ok (.ifCond .eq 15, 3) := by decide +kernel
theorem dX4_copy_86 : decode cX4_copy 86 = .ok (.aload 7, 2) := by decide +kernel
theorem dX4_copy_88 : decode cX4_copy 88 = .ok (.iload 4, 2) := by decide +kernel
theorem dX4_copy_90 : decode cX4_copy 90 = .ok (.iload 5, 2) := by decide +kernel
theorem dX4_copy_92 : decode cX4_copy 92 = .ok (.invokevirtual 273, 3) := by decide +kernel
theorem dX4_copy_95 : decode cX4_copy 95 = .ok (.ifCond .ne 10, 3) := by decide +kernel
theorem dX4_copy_98 : decode cX4_copy 98 = .ok (.aload_n 0, 1) := by decide +kernel
theorem dX4_copy_99 : decode cX4_copy 99 = .ok (.ldc 58, 2) := by decide +kernel
theorem dX4_copy_101 : decode cX4_copy 101 = .ok (.invokevirtual 59, 3) := by decide +kernel
theorem dX4_copy_104 : decode cX4_copy 104 = .ok (.ireturn, 1) := by decide +kernel
theorem dX4_copy_105 : decode cX4_copy 105 = .ok (.aload 6, 2) := by decide +kernel
theorem dX4_copy_107 : decode cX4_copy 107 = .ok (.getfield 262, 3) := by decide +kernel
theorem dX4_copy_110 : decode cX4_copy 110 = .ok (.iload_n 2, 1) := by decide +kernel
theorem dX4_copy_111 : decode cX4_copy 111 = .ok (.aload 7, 2) := by decide +kernel
theorem dX4_copy_113 : decode cX4_copy 113 = .ok (.getfield 262, 3) := by decide +kernel
theorem dX4_copy_116 : decode cX4_copy 116 = .ok (.iload 4, 2) := by decide +kernel
theorem dX4_copy_118 : decode cX4_copy 118 = .ok (.iload 5, 2) := by decide +kernel
theorem dX4_copy_120 : decode cX4_copy 120 = .ok (.invokestatic 276, 3) := by decide +kernel
theorem dX4_copy_123 : decode cX4_copy 123 = .ok (.iload 5, 2) := by decide +kernel
theorem dX4_copy_125 : decode cX4_copy 125 = .ok (.ireturn, 1) := by decide +kernel
theorem dX4_lays_0 : decode cX4_lays 0 = .ok (.aload_n 0, 1) := by decide +kernel
theorem dX4_lays_1 : decode cX4_lays 1 = .ok (.iload_n 1, 1) := by decide +kernel
theorem dX4_lays_2 : decode cX4_lays 2 = .ok (.invokevirtual 246, 3) := by decide +kernel
theorem dX4_lays_5 : decode cX4_lays 5 = .ok (.astore_n 2, 1) := by decide +kernel
theorem dX4_lays_6 : decode cX4_lays 6 = .ok (.aload_n 2, 1) := by decide +kernel
theorem dX4_lays_7 : decode cX4_lays 7 = .ok (.ifnonnull 10, 3) := by decide +kernel
theorem dX4_lays_10 : decode cX4_lays 10 = .ok (.aload_n 0, 1) := by decide +kernel
theorem dX4_lays_11 : decode cX4_lays 11 = .ok (.ldc 58, 2) := by decide +kernel
theorem dX4_lays_13 : decode cX4_lays 13 = .ok (.invokevirtual 59, 3) := by decide +kernel
theorem dX4_lays_16 : decode cX4_lays 16 = .ok (.ireturn, 1) := by decide +kernel
theorem dX4_lays_17 : decode cX4_lays 17 = .ok (.aload_n 2, 1) := by decide +kernel
theorem dX4_lays_18 : decode cX4_lays 18 = .ok (.invokevirtual 258, 3) := by decide +kernel
theorem dX4_lays_21 : decode cX4_lays 21 = .ok (.ifCond .eq 11, 3) := by decide +kernel
theorem dX4_lays_24 : decode cX4_lays 24 = .ok (.aload_n 0, 1) := by decide +kernel
theorem dX4_lays_25 : decode cX4_lays 25 = .ok (.ldc_w 261, 3) := by decide +kernel
theorem dX4_lays_28 : decode cX4_lays 28 = .ok (.invokevirtual 59, 3) := by decide +kernel
theorem dX4_lays_31 : decode cX4_lays 31 = .ok (.ireturn, 1) := by decide +kernel
theorem dX4_lays_32 : decode cX4_lays 32 = .ok (.iconst 0, 1) := by decide +kernel
theorem dX4_lays_33 : decode cX4_lays 33 = .ok (.istore_n 3, 1) := by decide +kernel
theorem dX4_lays_34 : decode cX4_lays 34 = .ok (.iconst 0, 1) := by decide +kernel
theorem dX4_lays_35 : decode cX4_lays 35 = .ok (.istore 4, 2) := by decide +kernel
theorem dX4_lays_37 : decode cX4_lays 37 = .ok (.iload 4, 2) := by decide +kernel
theorem dX4_lays_39 : decode cX4_lays 39 = .ok (.aload_n 0, 1) := by decide +kernel
theorem dX4_lays_40 : decode cX4_lays 40 = .ok (.getfield 10, 3) := by decide +kernel
theorem dX4_lays_43 : decode cX4_lays 43 = .ok (.getfield 110, 3) := by decide +kernel
theorem dX4_lays_46 : decode cX4_lays 46 = .ok (.if_icmp .ge 59, 3) := by decide +kernel
theorem dX4_lays_49 : decode cX4_lays 49 = .ok (.iload 4, 2) := by decide +kernel
theorem dX4_lays_51 : decode cX4_lays 51 = .ok (.aload_n 2, 1) := by decide +kernel
theorem dX4_lays_52 : decode cX4_lays 52 = .ok (.getfield 257, 3) := by decide +kernel
theorem dX4_lays_55 : decode cX4_lays 55 = .ok (.if_icmp .ge 50, 3) := by decide +kernel
theorem dX4_lays_58 : decode cX4_lays 58 = .ok (.aload_n 2, 1) := by decide +kernel
theorem dX4_lays_59 : decode cX4_lays 59 = .ok (.getfield 262, 3) := by decide +kernel
theorem dX4_lays_62 : decode cX4_lays 62 = .ok (.iload 4, 2) := by decide +kernel
theorem dX4_lays_64 : decode cX4_lays 64 = .ok (.laload, 1) := by decide +kernel
theorem dX4_lays_65 : decode cX4_lays 65 = .ok (.lstore 5, 2) := by decide +kernel
theorem dX4_lays_67 : decode cX4_lays 67 = .ok (.lload 5, 2) := by decide +kernel
theorem dX4_lays_69 : decode cX4_lays 69 = .ok (.lconst 0, 1) := by decide +kernel
theorem dX4_lays_70 : decode cX4_lays 70 = .ok (.lcmp, 1) := by decide +kernel
theorem dX4_lays_71 : decode cX4_lays 71 = .ok (.ifCond .lt 28, 3) := by decide +kernel
theorem dX4_lays_74 : decode cX4_lays 74 = .ok (.lload 5, 2) := by decide +kernel
theorem dX4_lays_76 : decode cX4_lays 76 = .ok (.ldc2_w 282, 3) := by decide +kernel
theorem dX4_lays_79 : decode cX4_lays 79 = .ok (.lcmp, 1) := by decide +kernel
theorem dX4_lays_80 : decode cX4_lays 80 = .ok (.ifCond .gt 19, 3) := by decide +kernel
theorem dX4_lays_83 : decode cX4_lays 83 = .ok (.aload_n 0, 1) := by decide +kernel
theorem dX4_lays_84 : decode cX4_lays 84 = .ok (.getfield 10, 3) := by decide +kernel
theorem dX4_lays_87 : decode cX4_lays 87 = .ok (.getfield 126, 3) := by decide +kernel
theorem dX4_lays_90 : decode cX4_lays 90 = .ok (.iload 4, 2) := by decide +kernel
theorem dX4_lays_92 : decode cX4_lays 92 = .ok (.lload 5, 2) := by decide +kernel
theorem dX4_lays_94 : decode cX4_lays 94 = .ok (.l2i, 1) := by decide +kernel
theorem dX4_lays_95 : decode cX4_lays 95 = .ok (.iastore, 1) := by decide +kernel
theorem dX4_lays_96 : decode cX4_lays 96 = .ok (.iinc 3 1, 3) := by decide +kernel
theorem dX4_lays_99 : decode cX4_lays 99 = .ok (.iinc 4 1, 3) := by decide +kernel
theorem dX4_lays_102 : decode cX4_lays 102 = .ok (.goto (-65), 3) := by decide +kernel
theorem dX4_lays_105 : decode cX4_lays 105 = .ok (.iload_n 3, 1) := by decide +kernel
theorem dX4_lays_106 : decode cX4_lays 106 = .ok (.ireturn, 1) := by decide +kernel
theorem dX4_book_0 : decode cX4_book 0 = .ok (.aload_n 0, 1) := by decide +kernel
theorem dX4_book_1 : decode cX4_book 1 = .ok (.iload_n 1, 1) := by decide +kernel
theorem dX4_book_2 : decode cX4_book 2 = .ok (.invokevirtual 246, 3) := by decide +kernel
theorem dX4_book_5 : decode cX4_book 5 = .ok (.astore_n 3, 1) := by decide +kernel
theorem dX4_book_6 : decode cX4_book 6 = .ok (.aload_n 3, 1) := by decide +kernel
theorem dX4_book_7 : decode cX4_book 7 = .ok (.ifnonnull 10, 3) := by decide +kernel
theorem dX4_book_10 : decode cX4_book 10 = .ok (.aload_n 0, 1) := by decide +kernel
theorem dX4_book_11 : decode cX4_book 11 = .ok (.ldc 58, 2) := by decide +kernel
theorem dX4_book_13 : decode cX4_book 13 = .ok (.invokevirtual 59, 3) := by decide +kernel
theorem dX4_book_16 : decode cX4_book 16 = .ok (.ireturn, 1) := by decide +kernel
theorem dX4_book_17 : decode cX4_book 17 = .ok (.aload_n 3, 1) := by decide +kernel
theorem dX4_book_18 : decode cX4_book 18 = .ok (.invokevirtual 258, 3) := by decide +kernel
theorem dX4_book_21 : decode cX4_book 21 = .ok (.ifCond .eq 11, 3) := by decide +kernel
theorem dX4_book_24 : decode cX4_book 24 = .ok (.aload_n 0, 1) := by decide +kernel
theorem dX4_book_25 : decode cX4_book 25 = .ok (.ldc_w 261, 3) := by decide +kernel
theorem dX4_book_28 : decode cX4_book 28 = .ok (.invokevirtual 59, 3) := by decide +kernel
theorem dX4_book_31 : decode cX4_book 31 = .ok (.ireturn, 1) := by decide +kernel
theorem dX4_book_32 : decode cX4_book 32 = .ok (.aload_n 0, 1) := by decide +kernel
theorem dX4_book_33 : decode cX4_book 33 = .ok (.iload_n 2, 1) := by decide +kernel
theorem dX4_book_34 : decode cX4_book 34 = .ok (.invokevirtual 117, 3) := by decide +kernel
theorem dX4_book_37 : decode cX4_book 37 = .ok (.ifCond .ne 10, 3) := by decide +kernel
theorem dX4_book_40 : decode cX4_book 40 = .ok (.aload_n 0, 1) := by decide +kernel
theorem dX4_book_41 : decode cX4_book 41 = .ok (.ldc 58, 2) := by decide +kernel
theorem dX4_book_43 : decode cX4_book 43 = .ok (.invokevirtual 59, 3) := by decide +kernel
theorem dX4_book_46 : decode cX4_book 46 = .ok (.ireturn, 1) := by decide +kernel
theorem dX4_book_47 : decode cX4_book 47 = .ok (.aload_n 0, 1) := by decide +kernel
theorem dX4_book_48 : decode cX4_book 48 = .ok (.getfield 24, 3) := by decide +kernel
theorem dX4_book_51 : decode cX4_book 51 = .ok (.aload_n 3, 1) := by decide +kernel
theorem dX4_book_52 : decode cX4_book 52 = .ok (.iload_n 2, 1) := by decide +kernel
theorem dX4_book_53 : decode cX4_book 53 = .ok (.invokevirtual 284, 3) := by decide +kernel
theorem dX4_book_56 : decode cX4_book 56 = .ok (.aload_n 3, 1) := by decide +kernel
theorem dX4_book_57 : decode cX4_book 57 = .ok (.getfield 257, 3) := by decide +kernel
theorem dX4_book_60 : decode cX4_book 60 = .ok (.ireturn, 1) := by decide +kernel
theorem dX4_read_0 : decode cX4_read 0 = .ok (.aload_n 0, 1) := by decide +kernel
theorem dX4_read_1 : decode cX4_read 1 = .ok (.iload_n 1, 1) := by decide +kernel
theorem dX4_read_2 : decode cX4_read 2 = .ok (.invokevirtual 246, 3) := by decide +kernel
theorem dX4_read_5 : decode cX4_read 5 = .ok (.astore_n 3, 1) := by decide +kernel
theorem dX4_read_6 : decode cX4_read 6 = .ok (.aload_n 3, 1) := by decide +kernel
theorem dX4_read_7 : decode cX4_read 7 = .ok (.ifnonnull 10, 3) := by decide +kernel
theorem dX4_read_10 : decode cX4_read 10 = .ok (.aload_n 0, 1) := by decide +kernel
theorem dX4_read_11 : decode cX4_read 11 = .ok (.ldc 58, 2) := by decide +kernel
theorem dX4_read_13 : decode cX4_read 13 = .ok (.invokevirtual 59, 3) := by decide +kernel
theorem dX4_read_16 : decode cX4_read 16 = .ok (.ireturn, 1) := by decide +kernel
theorem dX4_read_17 : decode cX4_read 17 = .ok (.aload_n 3, 1) := by decide +kernel
theorem dX4_read_18 : decode cX4_read 18 = .ok (.invokevirtual 258, 3) := by decide +kernel
theorem dX4_read_21 : decode cX4_read 21 = .ok (.ifCond .eq 11, 3) := by decide +kernel
theorem dX4_read_24 : decode cX4_read 24 = .ok (.aload_n 0, 1) := by decide +kernel
theorem dX4_read_25 : decode cX4_read 25 = .ok (.ldc_w 261, 3) := by decide +kernel
theorem dX4_read_28 : decode cX4_read 28 = .ok (.invokevirtual 59, 3) := by decide +kernel
theorem dX4_read_31 : decode cX4_read 31 = .ok (.ireturn, 1) := by decide +kernel
theorem dX4_read_32 : decode cX4_read 32 = .ok (.aload_n 0, 1) := by decide +kernel
theorem dX4_read_33 : decode cX4_read 33 = .ok (.iload_n 2, 1) := by decide +kernel
theorem dX4_read_34 : decode cX4_read 34 = .ok (.invokevirtual 117, 3) := by decide +kernel
theorem dX4_read_37 : decode cX4_read 37 = .ok (.ifCond .ne 10, 3) := by decide +kernel
theorem dX4_read_40 : decode cX4_read 40 = .ok (.aload_n 0, 1) := by decide +kernel
theorem dX4_read_41 : decode cX4_read 41 = .ok (.ldc 58, 2) := by decide +kernel
theorem dX4_read_43 : decode cX4_read 43 = .ok (.invokevirtual 59, 3) := by decide +kernel
theorem dX4_read_46 : decode cX4_read 46 = .ok (.ireturn, 1) := by decide +kernel
theorem dX4_read_47 : decode cX4_read 47 = .ok (.aload_n 0, 1) := by decide +kernel
theorem dX4_read_48 : decode cX4_read 48 = .ok (.getfield 24, 3) := by decide +kernel
theorem dX4_read_51 : decode cX4_read 51 = .ok (.aload_n 3, 1) := by decide +kernel
theorem dX4_read_52 : decode cX4_read 52 = .ok (.iload_n 2, 1) := by decide +kernel
theorem dX4_read_53 : decode cX4_read 53 = .ok (.invokevirtual 288, 3) := by decide +kernel
theorem dX4_read_56 : decode cX4_read 56 = .ok (.ireturn, 1) := by decide +kernel
theorem dX4_image_0 : decode cX4_image 0 = .ok (.aload_n 0, 1) := by decide +kernel
theorem dX4_image_1 : decode cX4_image 1 = .ok (.getfield 16, 3) := by decide +kernel
theorem dX4_image_4 : decode cX4_image 4 = .ok (.aload_n 0, 1) := by decide +kernel
theorem dX4_image_5 : decode cX4_image 5 = .ok (.getfield 10, 3) := by decide +kernel
theorem dX4_image_8 : decode cX4_image 8 = .ok (.invokevirtual 243, 3) := by decide +kernel
theorem dX4_image_11 : decode cX4_image 11 = .ok (.aload_n 0, 1) := by decide +kernel
theorem dX4_image_12 : decode cX4_image 12 = .ok (.iconst 1, 1) := by decide +kernel
theorem dX4_image_13 : decode cX4_image 13 = .ok (.putfield 46, 3) := by decide +kernel
theorem dX4_image_16 : decode cX4_image 16 = .ok (.iconst 1, 1) := by decide +kernel
theorem dX4_image_17 : decode cX4_image 17 = .ok (.ireturn, 1) := by decide +kernel
theorem dX4_undo_0 : decode cX4_undo 0 = .ok (.aload_n 0, 1) := by decide +kernel
theorem dX4_undo_1 : decode cX4_undo 1 = .ok (.getfield 46, 3) := by decide +kernel
theorem dX4_undo_4 : decode cX4_undo 4 = .ok (.ifCond .ne 11, 3) := by decide +kernel
theorem dX4_undo_7 : decode cX4_undo 7 = .ok (.aload_n 0, 1) := by decide +kernel
theorem dX4_undo_8 : decode cX4_undo 8 = .ok (.ldc_w 292, 3) := by decide +kernel
theorem dX4_undo_11 : decode cX4_undo 11 = .ok (.invokevirtual 59, 3) := by decide +kernel
theorem dX4_undo_14 : decode cX4_undo 14 = .ok (.ireturn, 1) := by decide +kernel
theorem dX4_undo_15 : decode cX4_undo 15 = .ok (.aload_n 0, 1) := by decide +kernel
theorem dX4_undo_16 : decode cX4_undo 16 = .ok (.getfield 10, 3) := by decide +kernel
theorem dX4_undo_19 : decode cX4_undo 19 = .ok (.aload_n 0, 1) := by decide +kernel
theorem dX4_undo_20 : decode cX4_undo 20 = .ok (.getfield 16, 3) := by decide +kernel
theorem dX4_undo_23 : decode cX4_undo 23 = .ok (.invokevirtual 243, 3) := by decide +kernel
theorem dX4_undo_26 : decode cX4_undo 26 = .ok (.aload_n 0, 1) := by decide +kernel
theorem dX4_undo_27 : decode cX4_undo 27 = .ok (.getfield 10, 3) := by decide +kernel
theorem dX4_undo_30 : decode cX4_undo 30 = .ok (.getfield 110, 3) := by decide +kernel
theorem dX4_undo_33 : decode cX4_undo 33 = .ok (.ireturn, 1) := by decide +kernel
theorem dX4_tear_0 : decode cX4_tear 0 = .ok (.aload_n 0, 1) := by decide +kernel
theorem dX4_tear_1 : decode cX4_tear 1 = .ok (.getfield 46, 3) := by decide +kernel
theorem dX4_tear_4 : decode cX4_tear 4 = .ok (.ifCond .eq 7, 3) := by decide +kernel
theorem dX4_tear_7 : decode cX4_tear 7 = .ok (.iconst 1, 1) := by decide +kernel
theorem dX4_tear_8 : decode cX4_tear 8 = .ok (.goto 4, 3) := by decide +kernel
theorem dX4_tear_11 : decode cX4_tear 11 = .ok (.iconst 0, 1) := by decide +kernel
theorem dX4_tear_12 : decode cX4_tear 12 = .ok (.istore_n 1, 1) := by decide +kernel
theorem dX4_tear_13 : decode cX4_tear 13 = .ok (.aload_n 0, 1) := by decide +kernel
theorem dX4_tear_14 : decode cX4_tear 14 = .ok (.iconst 0, 1) := by decide +kernel
theorem dX4_tear_15 : decode cX4_tear 15 = .ok (.putfield 46, 3) := by decide +kernel
theorem dX4_tear_18 : decode cX4_tear 18 = .ok (.iload_n 1, 1) := by decide +kernel
theorem dX4_tear_19 : decode cX4_tear 19 = .ok (.ireturn, 1) := by decide +kernel
theorem dX4_count_0 : decode cX4_count 0 = .ok (.iload_n 1, 1) := by decide +kernel
theorem dX4_count_1 : decode cX4_count 1 = .ok (.tableswitch 75 0 4 #[35, 43, 51, 59, 67], 35) := by decide +kernel
theorem dX4_count_36 : decode cX4_count 36 = .ok (.aload_n 0, 1) := by decide +kernel
theorem dX4_count_37 : decode cX4_count 37 = .ok (.getfield 10, 3) := by decide +kernel
theorem dX4_count_40 : decode cX4_count 40 = .ok (.getfield 110, 3) := by decide +kernel
theorem dX4_count_43 : decode cX4_count 43 = .ok (.ireturn, 1) := by decide +kernel
theorem dX4_count_44 : decode cX4_count 44 = .ok (.aload_n 0, 1) := by decide +kernel
theorem dX4_count_45 : decode cX4_count 45 = .ok (.getfield 10, 3) := by decide +kernel
theorem dX4_count_48 : decode cX4_count 48 = .ok (.getfield 82, 3) := by decide +kernel
theorem dX4_count_51 : decode cX4_count 51 = .ok (.ireturn, 1) := by decide +kernel
theorem dX4_count_52 : decode cX4_count 52 = .ok (.aload_n 0, 1) := by decide +kernel
theorem dX4_count_53 : decode cX4_count 53 = .ok (.getfield 31, 3) := by decide +kernel
theorem dX4_count_56 : decode cX4_count 56 = .ok (.getfield 228, 3) := by decide +kernel
theorem dX4_count_59 : decode cX4_count 59 = .ok (.ireturn, 1) := by decide +kernel
theorem dX4_count_60 : decode cX4_count 60 = .ok (.aload_n 0, 1) := by decide +kernel
theorem dX4_count_61 : decode cX4_count 61 = .ok (.getfield 10, 3) := by decide +kernel
theorem dX4_count_64 : decode cX4_count 64 = .ok (.invokevirtual 293, 3) := by decide +kernel
theorem dX4_count_67 : decode cX4_count 67 = .ok (.ireturn, 1) := by decide +kernel
theorem dX4_count_68 : decode cX4_count 68 = .ok (.aload_n 0, 1) := by decide +kernel
theorem dX4_count_69 : decode cX4_count 69 = .ok (.getfield 10, 3) := by decide +kernel
theorem dX4_count_72 : decode cX4_count 72 = .ok (.invokevirtual 296, 3) := by decide +kernel
theorem dX4_count_75 : decode cX4_count 75 = .ok (.ireturn, 1) := by decide +kernel
theorem dX4_count_76 : decode cX4_count 76 = .ok (.aload_n 0, 1) := by decide +kernel
theorem dX4_count_77 : decode cX4_count 77 = .ok (.ldc 58, 2) := by decide +kernel
theorem dX4_count_79 : decode cX4_count 79 = .ok (.invokevirtual 59, 3) := by decide +kernel
theorem dX4_count_82 : decode cX4_count 82 = .ok (.ireturn, 1) := by decide +kernel
theorem dX4_status_0 : decode cX4_status 0 = .ok (.iload_n 1, 1) := by decide +kernel
theorem dX4_status_1 : decode cX4_status 1 = .ok (.iconst (-1), 1) := by decide +kernel
theorem dX4_status_2 : decode cX4_status 2 = .ok (.bipush 6, 2) := by decide +kernel
theorem dX4_status_4 : decode cX4_status 4 = .ok (.invokestatic 99, 3) := by decide +kernel
theorem dX4_status_7 : decode cX4_status 7 = .ok (.ifCond .ne 10, 3) := by decide +kernel
theorem dX4_status_10 : decode cX4_status 10 = .ok (.aload_n 0, 1) := by decide +kernel
theorem dX4_status_11 : decode cX4_status 11 = .ok (.ldc 58, 2) := by decide +kernel
theorem dX4_status_13 : decode cX4_status 13 = .ok (.invokevirtual 59, 3) := by decide +kernel
theorem dX4_status_16 : decode cX4_status 16 = .ok (.ireturn, 1) := by decide +kernel
theorem dX4_status_17 : decode cX4_status 17 = .ok (.iload_n 1, 1) := by decide +kernel
theorem dX4_status_18 : decode cX4_status 18 = .ok (.ifCond .lt 10, 3) := by decide +kernel
theorem dX4_status_21 : decode cX4_status 21 = .ok (.aload_n 0, 1) := by decide +kernel
theorem dX4_status_22 : decode cX4_status 22 = .ok (.getfield 42, 3) := by decide +kernel
theorem dX4_status_25 : decode cX4_status 25 = .ok (.iload_n 1, 1) := by decide +kernel
theorem dX4_status_26 : decode cX4_status 26 = .ok (.iaload, 1) := by decide +kernel
theorem dX4_status_27 : decode cX4_status 27 = .ok (.ireturn, 1) := by decide +kernel
theorem dX4_status_28 : decode cX4_status 28 = .ok (.iconst 0, 1) := by decide +kernel
theorem dX4_status_29 : decode cX4_status 29 = .ok (.istore_n 2, 1) := by decide +kernel
theorem dX4_status_30 : decode cX4_status 30 = .ok (.iconst 0, 1) := by decide +kernel
theorem dX4_status_31 : decode cX4_status 31 = .ok (.istore_n 3, 1) := by decide +kernel
theorem dX4_status_32 : decode cX4_status 32 = .ok (.iload_n 3, 1) := by decide +kernel
theorem dX4_status_33 : decode cX4_status 33 = .ok (.bipush 7, 2) := by decide +kernel
theorem dX4_status_35 : decode cX4_status 35 = .ok (.if_icmp .ge 18, 3) := by decide +kernel
theorem dX4_status_38 : decode cX4_status 38 = .ok (.iload_n 2, 1) := by decide +kernel
theorem dX4_status_39 : decode cX4_status 39 = .ok (.aload_n 0, 1) := by decide +kernel
theorem dX4_status_40 : decode cX4_status 40 = .ok (.getfield 42, 3) := by decide +kernel
theorem dX4_status_43 : decode cX4_status 43 = .ok (.iload_n 3, 1) := by decide +kernel
theorem dX4_status_44 : decode cX4_status 44 = .ok (.iaload, 1) := by decide +kernel
theorem dX4_status_45 : decode cX4_status 45 = .ok (.iadd, 1) := by decide +kernel
theorem dX4_status_46 : decode cX4_status 46 = .ok (.istore_n 2, 1) := by decide +kernel
theorem dX4_status_47 : decode cX4_status 47 = .ok (.iinc 3 1, 3) := by decide +kernel
theorem dX4_status_50 : decode cX4_status 50 = .ok (.goto (-18), 3) := by decide +kernel
theorem dX4_status_53 : decode cX4_status 53 = .ok (.iload_n 2, 1) := by decide +kernel
theorem dX4_status_54 : decode cX4_status 54 = .ok (.ireturn, 1) := by decide +kernel
theorem dX4_finding_0 : decode cX4_finding 0 = .ok (.ldc 58, 2) := by decide +kernel
theorem dX4_finding_2 : decode cX4_finding 2 = .ok (.iload_n 1, 1) := by decide +kernel
theorem dX4_finding_3 : decode cX4_finding 3 = .ok (.isub, 1) := by decide +kernel
theorem dX4_finding_4 : decode cX4_finding 4 = .ok (.istore_n 2, 1) := by decide +kernel
theorem dX4_finding_5 : decode cX4_finding 5 = .ok (.iload_n 2, 1) := by decide +kernel
theorem dX4_finding_6 : decode cX4_finding 6 = .ok (.ifCond .lt 19, 3) := by decide +kernel
theorem dX4_finding_9 : decode cX4_finding 9 = .ok (.iload_n 2, 1) := by decide +kernel
theorem dX4_finding_10 : decode cX4_finding 10 = .ok (.bipush 7, 2) := by decide +kernel
theorem dX4_finding_12 : decode cX4_finding 12 = .ok (.if_icmp .ge 13, 3) := by decide +kernel
theorem dX4_finding_15 : decode cX4_finding 15 = .ok (.aload_n 0, 1) := by decide +kernel
theorem dX4_finding_16 : decode cX4_finding 16 = .ok (.getfield 42, 3) := by decide +kernel
theorem dX4_finding_19 : decode cX4_finding 19 = .ok (.iload_n 2, 1) := by decide +kernel
theorem dX4_finding_20 : decode cX4_finding 20 = .ok (.dup2, 1) := by decide +kernel
theorem dX4_finding_21 : decode cX4_finding 21 = .ok (.iaload, 1) := by decide +kernel
theorem dX4_finding_22 : decode cX4_finding 22 = .ok (.iconst 1, 1) := by decide +kernel
theorem dX4_finding_23 : decode cX4_finding 23 = .ok (.iadd, 1) := by decide +kernel
theorem dX4_finding_24 : decode cX4_finding 24 = .ok (.iastore, 1) := by decide +kernel
theorem dX4_finding_25 : decode cX4_finding 25 = .ok (.iload_n 1, 1) := by decide +kernel
theorem dX4_finding_26 : decode cX4_finding 26 = .ok (.ireturn, 1) := by decide +kernel
theorem dX4_orNone_0 : decode cX4_orNone 0 = .ok (.iload_n 1, 1) := by decide +kernel
theorem dX4_orNone_1 : decode cX4_orNone 1 = .ok (.ifCond .ge 13, 3) := by decide +kernel
theorem dX4_orNone_4 : decode cX4_orNone 4 = .ok (.aload_n 0, 1) := by decide +kernel
theorem dX4_orNone_5 : decode cX4_orNone 5 = .ok (.ldc_w 292, 3) := by decide +kernel
theorem dX4_orNone_8 : decode cX4_orNone 8 = .ok (.invokevirtual 59, 3) := by decide +kernel
theorem dX4_orNone_11 : decode cX4_orNone 11 = .ok (.goto 4, 3) := by decide +kernel
theorem dX4_orNone_14 : decode cX4_orNone 14 = .ok (.iload_n 1, 1) := by decide +kernel
theorem dX4_orNone_15 : decode cX4_orNone 15 = .ok (.ireturn, 1) := by decide +kernel
theorem dX4_isRange_0 : decode cX4_isRange 0 = .ok (.iload_n 1, 1) := by decide +kernel
theorem dX4_isRange_1 : decode cX4_isRange 1 = .ok (.ifCond .lt 18, 3) := by decide +kernel
theorem dX4_isRange_4 : decode cX4_isRange 4 = .ok (.iload_n 1, 1) := by decide +kernel
theorem dX4_isRange_5 : decode cX4_isRange 5 = .ok (.aload_n 0, 1) := by decide +kernel
theorem dX4_isRange_6 : decode cX4_isRange 6 = .ok (.getfield 10, 3) := by decide +kernel
theorem dX4_isRange_9 : decode cX4_isRange 9 = .ok (.getfield 110, 3) := by decide +kernel
theorem dX4_isRange_12 : decode cX4_isRange 12 = .ok (.if_icmp .ge 7, 3) := by decide +kernel
theorem dX4_isRange_15 : decode cX4_isRange 15 = .ok (.iconst 1, 1) := by decide +kernel
theorem dX4_isRange_16 : decode cX4_isRange 16 = .ok (.goto 4, 3) := by decide +kernel
theorem dX4_isRange_19 : decode cX4_isRange 19 = .ok (.iconst 0, 1) := by decide +kernel
theorem dX4_isRange_20 : decode cX4_isRange 20 = .ok (.ireturn, 1) := by decide +kernel
theorem dX4_isVillage_0 : decode cX4_isVillage 0 = .ok (.iload_n 1, 1) := by decide +kernel
theorem dX4_isVillage_1 : decode cX4_isVillage 1 = .ok (.ifCond .lt 18, 3) := by decide +kernel
theorem dX4_isVillage_4 : decode cX4_isVillage 4 = .ok (.iload_n 1, 1) := by decide +kernel
theorem dX4_isVillage_5 : decode cX4_isVillage 5 = .ok (.aload_n 0, 1) := by decide +kernel
theorem dX4_isVillage_6 : decode cX4_isVillage 6 = .ok (.getfield 10, 3) := by decide +kernel
theorem dX4_isVillage_9 : decode cX4_isVillage 9 = .ok (.getfield 82, 3) := by decide +kernel
theorem dX4_isVillage_12 : decode cX4_isVillage 12 = .ok (.if_icmp .ge 7, 3) := by decide +kernel
theorem dX4_isVillage_15 : decode cX4_isVillage 15 = .ok (.iconst 1, 1) := by decide +kernel
theorem dX4_isVillage_16 : decode cX4_isVillage 16 = .ok (.goto 4, 3) := by decide +kernel
theorem dX4_isVillage_19 : decode cX4_isVillage 19 = .ok (.iconst 0, 1) := by decide +kernel
theorem dX4_isVillage_20 : decode cX4_isVillage 20 = .ok (.ireturn, 1) := by decide +kernel
theorem dX4_sheetAt_0 : decode cX4_sheetAt 0 = .ok (.iload_n 1, 1) := by decide +kernel
theorem dX4_sheetAt_1 : decode cX4_sheetAt 1 = .ok (.ifCond .lt 17, 3) := by decide +kernel
theorem dX4_sheetAt_4 : decode cX4_sheetAt 4 = .ok (.iload_n 1, 1) := by decide +kernel
theorem dX4_sheetAt_5 : decode cX4_sheetAt 5 = .ok (.iconst 4, 1) := by decide +kernel
theorem dX4_sheetAt_6 : decode cX4_sheetAt 6 = .ok (.if_icmp .ge 12, 3) := by decide +kernel
theorem dX4_sheetAt_9 : decode cX4_sheetAt 9 = .ok (.aload_n 0, 1) := by decide +kernel
theorem dX4_sheetAt_10 : decode cX4_sheetAt 10 = .ok (.getfield 37, 3) := by decide +kernel
theorem dX4_sheetAt_13 : decode cX4_sheetAt 13 = .ok (.iload_n 1, 1) := by decide +kernel
theorem dX4_sheetAt_14 : decode cX4_sheetAt 14 = .ok (.aaload, 1) := by decide +kernel
theorem dX4_sheetAt_15 : decode cX4_sheetAt 15 = .ok (.goto 4, 3) := by decide +kernel
theorem dX4_sheetAt_18 : decode cX4_sheetAt 18 = .ok (.aconst_null, 1) := by decide +kernel
theorem dX4_sheetAt_19 : decode cX4_sheetAt 19 = .ok (.areturn, 1) := by decide +kernel
theorem dX4_isBetween_0 : decode cX4_isBetween 0 = .ok (.iload_n 0, 1) := by decide +kernel
theorem dX4_isBetween_1 : decode cX4_isBetween 1 = .ok (.iload_n 1, 1) := by decide +kernel
theorem dX4_isBetween_2 : decode cX4_isBetween 2 = .ok (.if_icmp .lt 12, 3) := by decide +kernel
theorem dX4_isBetween_5 : decode cX4_isBetween 5 = .ok (.iload_n 0, 1) := by decide +kernel
theorem dX4_isBetween_6 : decode cX4_isBetween 6 = .ok (.iload_n 2, 1) := by decide +kernel
theorem dX4_isBetween_7 : decode cX4_isBetween 7 = .ok (.if_icmp .gt 7, 3) := by decide +kernel
theorem dX4_isBetween_10 : decode cX4_isBetween 10 = .ok (.iconst 1, 1) := by decide +kernel
theorem dX4_isBetween_11 : decode cX4_isBetween 11 = .ok (.goto 4, 3) := by decide +kernel
theorem dX4_isBetween_14 : decode cX4_isBetween 14 = .ok (.iconst 0, 1) := by decide +kernel
theorem dX4_isBetween_15 : decode cX4_isBetween 15 = .ok (.ireturn, 1) := by decide +kernel
theorem dX4_isCell_0 : decode cX4_isCell 0 = .ok (.iload_n 0, 1) := by decide +kernel
theorem dX4_isCell_1 : decode cX4_isCell 1 = .ok (.iconst 0, 1) := by decide +kernel
theorem dX4_isCell_2 : decode cX4_isCell 2 = .ok (.bipush 23, 2) := by decide +kernel
theorem dX4_isCell_4 : decode cX4_isCell 4 = .ok (.invokestatic 99, 3) := by decide +kernel
theorem dX4_isCell_7 : decode cX4_isCell 7 = .ok (.ireturn, 1) := by decide +kernel
theorem dX4_isKind_0 : decode cX4_isKind 0 = .ok (.iload_n 0, 1) := by decide +kernel
theorem dX4_isKind_1 : decode cX4_isKind 1 = .ok (.iconst 0, 1) := by decide +kernel
theorem dX4_isKind_2 : decode cX4_isKind 2 = .ok (.iconst 5, 1) := by decide +kernel
theorem dX4_isKind_3 : decode cX4_isKind 3 = .ok (.invokestatic 99, 3) := by decide +kernel
theorem dX4_isKind_6 : decode cX4_isKind 6 = .ok (.ireturn, 1) := by decide +kernel
theorem dX4_mayBePass_0 : decode cX4_mayBePass 0 = .ok (.iload_n 0, 1) := by decide +kernel
theorem dX4_mayBePass_1 : decode cX4_mayBePass 1 = .ok (.ifCond .eq 22, 3) := by decide +kernel
theorem dX4_mayBePass_4 : decode cX4_mayBePass 4 = .ok (.iload_n 0, 1) := by decide +kernel
theorem dX4_mayBePass_5 : decode cX4_mayBePass 5 = .ok (.iconst 2, 1) := by decide +kernel
theorem dX4_mayBePass_6 : decode cX4_mayBePass 6 = .ok (.bipush 9, 2) := by decide +kernel
theorem dX4_mayBePass_8 : decode cX4_mayBePass 8 = .ok (.invokestatic 99, 3) := by decide +kernel
theorem dX4_mayBePass_11 : decode cX4_mayBePass 11 = .ok (.ifCond .eq 16, 3) := by decide +kernel
theorem dX4_mayBePass_14 : decode cX4_mayBePass 14 = .ok (.iload_n 1, 1) := by decide +kernel
theorem dX4_mayBePass_15 : decode cX4_mayBePass 15 = .ok (.iconst 0, 1) := by decide +kernel
theorem dX4_mayBePass_16 : decode cX4_mayBePass 16 = .ok (.iload_n 0, 1) := by decide +kernel
theorem dX4_mayBePass_17 : decode cX4_mayBePass 17 = .ok (.invokestatic 99, 3) := by decide +kernel
theorem dX4_mayBePass_20 : decode cX4_mayBePass 20 = .ok (.ifCond .eq 7, 3) := by decide +kernel
theorem dX4_mayBePass_23 : decode cX4_mayBePass 23 = .ok (.iconst 1, 1) := by decide +kernel
theorem dX4_mayBePass_24 : decode cX4_mayBePass 24 = .ok (.goto 4, 3) := by decide +kernel
theorem dX4_mayBePass_27 : decode cX4_mayBePass 27 = .ok (.iconst 0, 1) := by decide +kernel
theorem dX4_mayBePass_28 : decode cX4_mayBePass 28 = .ok (.ireturn, 1) := by decide +kernel
theorem dX4_mayBeBits_0 : decode cX4_mayBeBits 0 = .ok (.iload_n 0, 1) := by decide +kernel
theorem dX4_mayBeBits_1 : decode cX4_mayBeBits 1 = .ok (.ifCond .eq 21, 3) := by decide +kernel
theorem dX4_mayBeBits_4 : decode cX4_mayBeBits 4 = .ok (.iload_n 0, 1) := by decide +kernel
theorem dX4_mayBeBits_5 : decode cX4_mayBeBits 5 = .ok (.bipush 8, 2) := by decide +kernel
theorem dX4_mayBeBits_7 : decode cX4_mayBeBits 7 = .ok (.if_icmp .eq 15, 3) := by decide +kernel
theorem dX4_mayBeBits_10 : decode cX4_mayBeBits 10 = .ok (.iload_n 0, 1) := by decide +kernel
theorem dX4_mayBeBits_11 : decode cX4_mayBeBits 11 = .ok (.bipush 16, 2) := by decide +kernel
theorem dX4_mayBeBits_13 : decode cX4_mayBeBits 13 = .ok (.if_icmp .eq 9, 3) := by decide +kernel
theorem dX4_mayBeBits_16 : decode cX4_mayBeBits 16 = .ok (.iload_n 0, 1) := by decide +kernel
theorem dX4_mayBeBits_17 : decode cX4_mayBeBits 17 = .ok (.bipush 64, 2) := by decide +kernel
theorem dX4_mayBeBits_19 : decode cX4_mayBeBits 19 = .ok (.if_icmp .ne 7, 3) := by decide +kernel
theorem dX4_mayBeBits_22 : decode cX4_mayBeBits 22 = .ok (.iconst 1, 1) := by decide +kernel
theorem dX4_mayBeBits_23 : decode cX4_mayBeBits 23 = .ok (.goto 4, 3) := by decide +kernel
theorem dX4_mayBeBits_26 : decode cX4_mayBeBits 26 = .ok (.iconst 0, 1) := by decide +kernel
theorem dX4_mayBeBits_27 : decode cX4_mayBeBits 27 = .ok (.ireturn, 1) := by decide +kernel
theorem dX4_isOrIsUnder_0 : decode cX4_isOrIsUnder 0 = .ok (.iload_n 0, 1) := by decide +kernel
theorem dX4_isOrIsUnder_1 : decode cX4_isOrIsUnder 1 = .ok (.istore_n 2, 1) := by decide +kernel
theorem dX4_isOrIsUnder_2 : decode cX4_isOrIsUnder 2 = .ok (.iconst 0, 1) := by decide +kernel
theorem dX4_isOrIsUnder_3 : decode cX4_isOrIsUnder 3 = .ok (.istore_n 3, 1) := by decide +kernel
theorem dX4_isOrIsUnder_4 : decode cX4_isOrIsUnder 4 = .ok (.iload_n 3, 1) := by decide +kernel
theorem dX4_isOrIsUnder_5 : decode cX4_isOrIsUnder 5 = .ok (.bipush 6, 2) := by decide +kernel
theorem dX4_isOrIsUnder_7 : decode cX4_isOrIsUnder 7 = .ok (.if_icmp .ge 19, 3) := by decide +kernel
theorem dX4_isOrIsUnder_10 : decode cX4_isOrIsUnder 10 = .ok (.iload_n 2, 1) := by decide +kernel
theorem dX4_isOrIsUnder_11 : decode cX4_isOrIsUnder 11 = .ok (.iload_n 1, 1) := by decide +kernel
theorem dX4_isOrIsUnder_12 : decode cX4_isOrIsUnder 12 = .ok (.if_icmp .eq 14, 3) := by decide +kernel
theorem dX4_isOrIsUnder_15 : decode cX4_isOrIsUnder 15 = .ok (.iload_n 2, 1) := by decide +kernel
theorem dX4_isOrIsUnder_16 : decode cX4_isOrIsUnder 16 = .ok (.invokestatic 299, 3) := by decide +kernel
theorem dX4_isOrIsUnder_19 : decode cX4_isOrIsUnder 19 = .ok (.istore_n 2, 1) := by decide +kernel
theorem dX4_isOrIsUnder_20 : decode cX4_isOrIsUnder 20 = .ok (.iinc 3 1, 3) := by decide +kernel
theorem dX4_isOrIsUnder_23 : decode cX4_isOrIsUnder 23 = .ok (.goto (-19), 3) := by decide +kernel
theorem dX4_isOrIsUnder_26 : decode cX4_isOrIsUnder 26 = .ok (.iload_n 2, 1) := by decide +kernel
theorem dX4_isOrIsUnder_27 : decode cX4_isOrIsUnder 27 = .ok (.iload_n 1, 1) := by decide +kernel
theorem dX4_isOrIsUnder_28 : decode cX4_isOrIsUnder 28 = .ok (.if_icmp .ne 7, 3) := by decide +kernel
theorem dX4_isOrIsUnder_31 : decode cX4_isOrIsUnder 31 = .ok (.iconst 1, 1) := by decide +kernel
theorem dX4_isOrIsUnder_32 : decode cX4_isOrIsUnder 32 = .ok (.goto 4, 3) := by decide +kernel
theorem dX4_isOrIsUnder_35 : decode cX4_isOrIsUnder 35 = .ok (.iconst 0, 1) := by decide +kernel
theorem dX4_isOrIsUnder_36 : decode cX4_isOrIsUnder 36 = .ok (.ireturn, 1) := by decide +kernel
theorem dX4_kindAbove_0 : decode cX4_kindAbove 0 = .ok (.iload_n 0, 1) := by decide +kernel
theorem dX4_kindAbove_1 : decode cX4_kindAbove 1 = .ok (.lookupswitch 31 #[(4, 27), (5, 29)], 27) := by decide +kernel
theorem dX4_kindAbove_28 : decode cX4_kindAbove 28 = .ok (.iconst 1, 1) := by decide +kernel
theorem dX4_kindAbove_29 : decode cX4_kindAbove 29 = .ok (.ireturn, 1) := by decide +kernel
theorem dX4_kindAbove_30 : decode cX4_kindAbove 30 = .ok (.iconst 2, 1) := by decide +kernel
theorem dX4_kindAbove_31 : decode cX4_kindAbove 31 = .ok (.ireturn, 1) := by decide +kernel
theorem dX4_kindAbove_32 : decode cX4_kindAbove 32 = .ok (.iconst 0, 1) := by decide +kernel
theorem dX4_kindAbove_33 : decode cX4_kindAbove 33 = .ok (.ireturn, 1) := by decide +kernel
theorem dX4_nextCell_0 : decode cX4_nextCell 0 = .ok (.iload_n 0, 1) := by decide +kernel
theorem dX4_nextCell_1 : decode cX4_nextCell 1 = .ok (.bipush 23, 2) := by decide +kernel
theorem dX4_nextCell_3 : decode cX4_nextCell 3 = .ok (.if_icmp .lt 7, 3) := by decide +kernel
theorem dX4_nextCell_6 : decode cX4_nextCell 6 = .ok (.iconst 0, 1) := by decide +kernel
theorem dX4_nextCell_7 : decode cX4_nextCell 7 = .ok (.goto 6, 3) := by decide +kernel
theorem dX4_nextCell_10 : decode cX4_nextCell 10 = .ok (.iload_n 0, 1) := by decide +kernel
theorem dX4_nextCell_11 : decode cX4_nextCell 11 = .ok (.iconst 1, 1) := by decide +kernel
theorem dX4_nextCell_12 : decode cX4_nextCell 12 = .ok (.iadd, 1) := by decide +kernel
theorem dX4_nextCell_13 : decode cX4_nextCell 13 = .ok (.ireturn, 1) := by decide +kernel
theorem dX4_isIn_0 : decode cX4_isIn 0 = .ok (.iload_n 0, 1) := by decide +kernel
theorem dX4_isIn_1 : decode cX4_isIn 1 = .ok (.iload_n 1, 1) := by decide +kernel
theorem dX4_isIn_2 : decode cX4_isIn 2 = .ok (.ishr, 1) := by decide +kernel
theorem dX4_isIn_3 : decode cX4_isIn 3 = .ok (.iconst 1, 1) := by decide +kernel
theorem dX4_isIn_4 : decode cX4_isIn 4 = .ok (.iand, 1) := by decide +kernel
theorem dX4_isIn_5 : decode cX4_isIn 5 = .ok (.ifCond .eq 7, 3) := by decide +kernel
theorem dX4_isIn_8 : decode cX4_isIn 8 = .ok (.iconst 1, 1) := by decide +kernel
theorem dX4_isIn_9 : decode cX4_isIn 9 = .ok (.goto 4, 3) := by decide +kernel
theorem dX4_isIn_12 : decode cX4_isIn 12 = .ok (.iconst 0, 1) := by decide +kernel
theorem dX4_isIn_13 : decode cX4_isIn 13 = .ok (.ireturn, 1) := by decide +kernel
