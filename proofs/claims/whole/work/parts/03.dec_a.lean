theorem dX0_init_0 : decode cX0_init 0 = .ok (.aload_n 0, 1) := by decide +kernel
theorem dX0_init_1 : decode cX0_init 1 = .ok (.invokespecial 3, 3) := by decide +kernel
theorem dX0_init_4 : decode cX0_init 4 = .ok (.aload_n 0, 1) := by decide +kernel
theorem dX0_init_5 : decode cX0_init 5 = .ok (.new 9, 3) := by decide +kernel
theorem dX0_init_8 : decode cX0_init 8 = .ok (.dup, 1) := by decide +kernel
theorem dX0_init_9 : decode cX0_init 9 = .ok (.invokespecial 11, 3) := by decide +kernel
theorem dX0_init_12 : decode cX0_init 12 = .ok (.putfield 12, 3) := by decide +kernel
theorem dX0_init_15 : decode cX0_init 15 = .ok (.aload_n 0, 1) := by decide +kernel
theorem dX0_init_16 : decode cX0_init 16 = .ok (.bipush 100, 2) := by decide +kernel
theorem dX0_init_18 : decode cX0_init 18 = .ok (.newarray .int, 2) := by decide +kernel
theorem dX0_init_20 : decode cX0_init 20 = .ok (.putfield 18, 3) := by decide +kernel
theorem dX0_init_23 : decode cX0_init 23 = .ok (.aload_n 0, 1) := by decide +kernel
theorem dX0_init_24 : decode cX0_init 24 = .ok (.aload_n 1, 1) := by decide +kernel
theorem dX0_init_25 : decode cX0_init 25 = .ok (.putfield 22, 3) := by decide +kernel
theorem dX0_init_28 : decode cX0_init 28 = .ok (.return_, 1) := by decide +kernel
theorem dX0_copyOfHere_0 : decode cX0_copyOfHere 0 = .ok (.aload_n 0, 1) := by decide +kernel
theorem dX0_copyOfHere_1 : decode cX0_copyOfHere 1 = .ok (.getfield 12, 3) := by decide +kernel
theorem dX0_copyOfHere_4 : decode cX0_copyOfHere 4 = .ok (.aload_n 0, 1) := by decide +kernel
theorem dX0_copyOfHere_5 : decode cX0_copyOfHere 5 = .ok (.getfield 22, 3) := by decide +kernel
theorem dX0_copyOfHere_8 : decode cX0_copyOfHere 8 = .ok (.invokevirtual 25, 3) := by decide +kernel
theorem dX0_copyOfHere_11 : decode cX0_copyOfHere 11 = .ok (.aload_n 0, 1) := by decide +kernel
theorem dX0_copyOfHere_12 : decode cX0_copyOfHere 12 = .ok (.getfield 12, 3) := by decide +kernel
theorem dX0_copyOfHere_15 : decode cX0_copyOfHere 15 = .ok (.areturn, 1) := by decide +kernel
theorem dX0_after_0 : decode cX0_after 0 = .ok (.aload_n 0, 1) := by decide +kernel
theorem dX0_after_1 : decode cX0_after 1 = .ok (.getfield 12, 3) := by decide +kernel
theorem dX0_after_4 : decode cX0_after 4 = .ok (.aload_n 0, 1) := by decide +kernel
theorem dX0_after_5 : decode cX0_after 5 = .ok (.getfield 22, 3) := by decide +kernel
theorem dX0_after_8 : decode cX0_after 8 = .ok (.invokevirtual 25, 3) := by decide +kernel
theorem dX0_after_11 : decode cX0_after 11 = .ok (.aload_n 0, 1) := by decide +kernel
theorem dX0_after_12 : decode cX0_after 12 = .ok (.getfield 12, 3) := by decide +kernel
theorem dX0_after_15 : decode cX0_after 15 = .ok (.iload_n 1, 1) := by decide +kernel
theorem dX0_after_16 : decode cX0_after 16 = .ok (.invokevirtual 29, 3) := by decide +kernel
theorem dX0_after_19 : decode cX0_after 19 = .ok (.aload_n 0, 1) := by decide +kernel
theorem dX0_after_20 : decode cX0_after 20 = .ok (.getfield 12, 3) := by decide +kernel
theorem dX0_after_23 : decode cX0_after 23 = .ok (.areturn, 1) := by decide +kernel
theorem dX0_seasonsUntilIn_0 : decode cX0_seasonsUntilIn 0 = .ok (.aload_n 0, 1) := by decide +kernel
theorem dX0_seasonsUntilIn_1 : decode cX0_seasonsUntilIn 1 = .ok (.getfield 12, 3) := by decide +kernel
theorem dX0_seasonsUntilIn_4 : decode cX0_seasonsUntilIn 4 = .ok (.aload_n 0, 1) := by decide +kernel
theorem dX0_seasonsUntilIn_5 : decode cX0_seasonsUntilIn 5 = .ok (.getfield 22, 3) := by decide +kernel
theorem dX0_seasonsUntilIn_8 : decode cX0_seasonsUntilIn 8 = .ok (.invokevirtual 25, 3) := by decide +kernel
theorem dX0_seasonsUntilIn_11 : decode cX0_seasonsUntilIn 11 = .ok (.iconst 0, 1) := by decide +kernel
theorem dX0_seasonsUntilIn_12 : decode cX0_seasonsUntilIn 12 = .ok (.istore_n 3, 1) := by decide +kernel
theorem dX0_seasonsUntilIn_13 : decode cX0_seasonsUntilIn 13 = .ok (.iload_n 3, 1) := by decide +kernel
theorem dX0_seasonsUntilIn_14 : decode cX0_seasonsUntilIn 14 = .ok (.bipush 80, 2) := by decide +kernel
theorem dX0_seasonsUntilIn_16 : decode cX0_seasonsUntilIn 16 = .ok (.if_icmp .gt 31, 3) := by decide +kernel
theorem dX0_seasonsUntilIn_19 : decode cX0_seasonsUntilIn 19 = .ok (.aload_n 0, 1) := by decide +kernel
theorem dX0_seasonsUntilIn_20 : decode cX0_seasonsUntilIn 20 = .ok (.getfield 12, 3) := by decide +kernel
theorem dX0_seasonsUntilIn_23 : decode cX0_seasonsUntilIn 23 = .ok (.getfield 33, 3) := by decide +kernel
theorem dX0_seasonsUntilIn_26 : decode cX0_seasonsUntilIn 26 = .ok (.iload_n 1, 1) := by decide +kernel
theorem dX0_seasonsUntilIn_27 : decode cX0_seasonsUntilIn 27 = .ok (.iaload, 1) := by decide +kernel
theorem dX0_seasonsUntilIn_28 : decode cX0_seasonsUntilIn 28 = .ok (.iload_n 2, 1) := by decide +kernel
theorem dX0_seasonsUntilIn_29 : decode cX0_seasonsUntilIn 29 = .ok (.if_icmp .ne 5, 3) := by decide +kernel
theorem dX0_seasonsUntilIn_32 : decode cX0_seasonsUntilIn 32 = .ok (.iload_n 3, 1) := by decide +kernel
theorem dX0_seasonsUntilIn_33 : decode cX0_seasonsUntilIn 33 = .ok (.ireturn, 1) := by decide +kernel
theorem dX0_seasonsUntilIn_34 : decode cX0_seasonsUntilIn 34 = .ok (.aload_n 0, 1) := by decide +kernel
theorem dX0_seasonsUntilIn_35 : decode cX0_seasonsUntilIn 35 = .ok (.getfield 12, 3) := by decide +kernel
theorem dX0_seasonsUntilIn_38 : decode cX0_seasonsUntilIn 38 = .ok (.invokevirtual 36, 3) := by decide +kernel
theorem dX0_seasonsUntilIn_41 : decode cX0_seasonsUntilIn 41 = .ok (.iinc 3 1, 3) := by decide +kernel
theorem dX0_seasonsUntilIn_44 : decode cX0_seasonsUntilIn 44 = .ok (.goto (-31), 3) := by decide +kernel
theorem dX0_seasonsUntilIn_47 : decode cX0_seasonsUntilIn 47 = .ok (.iconst (-1), 1) := by decide +kernel
theorem dX0_seasonsUntilIn_48 : decode cX0_seasonsUntilIn 48 = .ok (.ireturn, 1) := by decide +kernel
theorem dX0_seasonsUntilLit_0 : decode cX0_seasonsUntilLit 0 = .ok (.aload_n 0, 1) := by decide +kernel
theorem dX0_seasonsUntilLit_1 : decode cX0_seasonsUntilLit 1 = .ok (.getfield 12, 3) := by decide +kernel
theorem dX0_seasonsUntilLit_4 : decode cX0_seasonsUntilLit 4 = .ok (.aload_n 0, 1) := by decide +kernel
theorem dX0_seasonsUntilLit_5 : decode cX0_seasonsUntilLit 5 = .ok (.getfield 22, 3) := by decide +kernel
theorem dX0_seasonsUntilLit_8 : decode cX0_seasonsUntilLit 8 = .ok (.invokevirtual 25, 3) := by decide +kernel
theorem dX0_seasonsUntilLit_11 : decode cX0_seasonsUntilLit 11 = .ok (.iconst 0, 1) := by decide +kernel
theorem dX0_seasonsUntilLit_12 : decode cX0_seasonsUntilLit 12 = .ok (.istore_n 2, 1) := by decide +kernel
theorem dX0_seasonsUntilLit_13 : decode cX0_seasonsUntilLit 13 = .ok (.iload_n 2, 1) := by decide +kernel
theorem dX0_seasonsUntilLit_14 : decode cX0_seasonsUntilLit 14 = .ok (.bipush 80, 2) := by decide +kernel
theorem dX0_seasonsUntilLit_16 : decode cX0_seasonsUntilLit 16 = .ok (.if_icmp .gt 29, 3) := by decide +kernel
theorem dX0_seasonsUntilLit_19 : decode cX0_seasonsUntilLit 19 = .ok (.aload_n 0, 1) := by decide +kernel
theorem dX0_seasonsUntilLit_20 : decode cX0_seasonsUntilLit 20 = .ok (.getfield 12, 3) := by decide +kernel
theorem dX0_seasonsUntilLit_23 : decode cX0_seasonsUntilLit 23 = .ok (.iload_n 1, 1) := by decide +kernel
theorem dX0_seasonsUntilLit_24 : decode cX0_seasonsUntilLit 24 = .ok (.invokevirtual 39, 3) := by decide +kernel
theorem dX0_seasonsUntilLit_27 : decode cX0_seasonsUntilLit 27 = .ok (.ifCond .eq 5, 3) := by decide +kernel
theorem dX0_seasonsUntilLit_30 : decode cX0_seasonsUntilLit 30 = .ok (.iload_n 2, 1) := by decide +kernel
theorem dX0_seasonsUntilLit_31 : decode cX0_seasonsUntilLit 31 = .ok (.ireturn, 1) := by decide +kernel
theorem dX0_seasonsUntilLit_32 : decode cX0_seasonsUntilLit 32 = .ok (.aload_n 0, 1) := by decide +kernel
theorem dX0_seasonsUntilLit_33 : decode cX0_seasonsUntilLit 33 = .ok (.getfield 12, 3) := by decide +kernel
theorem dX0_seasonsUntilLit_36 : decode cX0_seasonsUntilLit 36 = .ok (.invokevirtual 36, 3) := by decide +kernel
theorem dX0_seasonsUntilLit_39 : decode cX0_seasonsUntilLit 39 = .ok (.iinc 2 1, 3) := by decide +kernel
theorem dX0_seasonsUntilLit_42 : decode cX0_seasonsUntilLit 42 = .ok (.goto (-29), 3) := by decide +kernel
theorem dX0_seasonsUntilLit_45 : decode cX0_seasonsUntilLit 45 = .ok (.iconst (-1), 1) := by decide +kernel
theorem dX0_seasonsUntilLit_46 : decode cX0_seasonsUntilLit 46 = .ok (.ireturn, 1) := by decide +kernel
theorem dX0_litSeasons_0 : decode cX0_litSeasons 0 = .ok (.aload_n 0, 1) := by decide +kernel
theorem dX0_litSeasons_1 : decode cX0_litSeasons 1 = .ok (.getfield 12, 3) := by decide +kernel
theorem dX0_litSeasons_4 : decode cX0_litSeasons 4 = .ok (.aload_n 0, 1) := by decide +kernel
theorem dX0_litSeasons_5 : decode cX0_litSeasons 5 = .ok (.getfield 22, 3) := by decide +kernel
theorem dX0_litSeasons_8 : decode cX0_litSeasons 8 = .ok (.invokevirtual 25, 3) := by decide +kernel
theorem dX0_litSeasons_11 : decode cX0_litSeasons 11 = .ok (.iconst 0, 1) := by decide +kernel
theorem dX0_litSeasons_12 : decode cX0_litSeasons 12 = .ok (.istore_n 3, 1) := by decide +kernel
theorem dX0_litSeasons_13 : decode cX0_litSeasons 13 = .ok (.iconst 0, 1) := by decide +kernel
theorem dX0_litSeasons_14 : decode cX0_litSeasons 14 = .ok (.istore 4, 2) := by decide +kernel
theorem dX0_litSeasons_16 : decode cX0_litSeasons 16 = .ok (.iload 4, 2) := by decide +kernel
theorem dX0_litSeasons_18 : decode cX0_litSeasons 18 = .ok (.iload_n 2, 1) := by decide +kernel
theorem dX0_litSeasons_19 : decode cX0_litSeasons 19 = .ok (.if_icmp .ge 30, 3) := by decide +kernel
theorem dX0_litSeasons_22 : decode cX0_litSeasons 22 = .ok (.aload_n 0, 1) := by decide +kernel
theorem dX0_litSeasons_23 : decode cX0_litSeasons 23 = .ok (.getfield 12, 3) := by decide +kernel
theorem dX0_litSeasons_26 : decode cX0_litSeasons 26 = .ok (.invokevirtual 36, 3) := by decide +kernel
theorem dX0_litSeasons_29 : decode cX0_litSeasons 29 = .ok (.aload_n 0, 1) := by decide +kernel
theorem dX0_litSeasons_30 : decode cX0_litSeasons 30 = .ok (.getfield 12, 3) := by decide +kernel
theorem dX0_litSeasons_33 : decode cX0_litSeasons 33 = .ok (.iload_n 1, 1) := by decide +kernel
theorem dX0_litSeasons_34 : decode cX0_litSeasons 34 = .ok (.invokevirtual 39, 3) := by decide +kernel
theorem dX0_litSeasons_37 : decode cX0_litSeasons 37 = .ok (.ifCond .eq 6, 3) := by decide +kernel
theorem dX0_litSeasons_40 : decode cX0_litSeasons 40 = .ok (.iinc 3 1, 3) := by decide +kernel
theorem dX0_litSeasons_43 : decode cX0_litSeasons 43 = .ok (.iinc 4 1, 3) := by decide +kernel
theorem dX0_litSeasons_46 : decode cX0_litSeasons 46 = .ok (.goto (-30), 3) := by decide +kernel
theorem dX0_litSeasons_49 : decode cX0_litSeasons 49 = .ok (.iload_n 3, 1) := by decide +kernel
theorem dX0_litSeasons_50 : decode cX0_litSeasons 50 = .ok (.ireturn, 1) := by decide +kernel
theorem dX0_standing_0 : decode cX0_standing 0 = .ok (.aload_n 0, 1) := by decide +kernel
theorem dX0_standing_1 : decode cX0_standing 1 = .ok (.getfield 12, 3) := by decide +kernel
theorem dX0_standing_4 : decode cX0_standing 4 = .ok (.aload_n 0, 1) := by decide +kernel
theorem dX0_standing_5 : decode cX0_standing 5 = .ok (.getfield 22, 3) := by decide +kernel
theorem dX0_standing_8 : decode cX0_standing 8 = .ok (.invokevirtual 25, 3) := by decide +kernel
theorem dX0_standing_11 : decode cX0_standing 11 = .ok (.aload_n 0, 1) := by decide +kernel
theorem dX0_standing_12 : decode cX0_standing 12 = .ok (.getfield 12, 3) := by decide +kernel
theorem dX0_standing_15 : decode cX0_standing 15 = .ok (.bipush 80, 2) := by decide +kernel
theorem dX0_standing_17 : decode cX0_standing 17 = .ok (.invokevirtual 29, 3) := by decide +kernel
theorem dX0_standing_20 : decode cX0_standing 20 = .ok (.iconst 0, 1) := by decide +kernel
theorem dX0_standing_21 : decode cX0_standing 21 = .ok (.istore_n 1, 1) := by decide +kernel
theorem dX0_standing_22 : decode cX0_standing 22 = .ok (.iconst 0, 1) := by decide +kernel
theorem dX0_standing_23 : decode cX0_standing 23 = .ok (.istore_n 2, 1) := by decide +kernel
theorem dX0_standing_24 : decode cX0_standing 24 = .ok (.iload_n 2, 1) := by decide +kernel
theorem dX0_standing_25 : decode cX0_standing 25 = .ok (.aload_n 0, 1) := by decide +kernel
theorem dX0_standing_26 : decode cX0_standing 26 = .ok (.getfield 22, 3) := by decide +kernel
theorem dX0_standing_29 : decode cX0_standing 29 = .ok (.getfield 43, 3) := by decide +kernel
theorem dX0_standing_32 : decode cX0_standing 32 = .ok (.if_icmp .ge 36, 3) := by decide +kernel
theorem dX0_standing_35 : decode cX0_standing 35 = .ok (.aload_n 0, 1) := by decide +kernel
theorem dX0_standing_36 : decode cX0_standing 36 = .ok (.getfield 12, 3) := by decide +kernel
theorem dX0_standing_39 : decode cX0_standing 39 = .ok (.getfield 47, 3) := by decide +kernel
theorem dX0_standing_42 : decode cX0_standing 42 = .ok (.iload_n 2, 1) := by decide +kernel
theorem dX0_standing_43 : decode cX0_standing 43 = .ok (.iaload, 1) := by decide +kernel
theorem dX0_standing_44 : decode cX0_standing 44 = .ok (.aload_n 0, 1) := by decide +kernel
theorem dX0_standing_45 : decode cX0_standing 45 = .ok (.getfield 22, 3) := by decide +kernel
theorem dX0_standing_48 : decode cX0_standing 48 = .ok (.getfield 47, 3) := by decide +kernel
theorem dX0_standing_51 : decode cX0_standing 51 = .ok (.iload_n 2, 1) := by decide +kernel
theorem dX0_standing_52 : decode cX0_standing 52 = .ok (.iaload, 1) := by decide +kernel
theorem dX0_standing_53 : decode cX0_standing 53 = .ok (.if_icmp .ne 9, 3) := by decide +kernel
theorem dX0_standing_56 : decode cX0_standing 56 = .ok (.iload_n 1, 1) := by decide +kernel
theorem dX0_standing_57 : decode cX0_standing 57 = .ok (.iconst 1, 1) := by decide +kernel
theorem dX0_standing_58 : decode cX0_standing 58 = .ok (.iload_n 2, 1) := by decide +kernel
theorem dX0_standing_59 : decode cX0_standing 59 = .ok (.ishl, 1) := by decide +kernel
theorem dX0_standing_60 : decode cX0_standing 60 = .ok (.ior, 1) := by decide +kernel
theorem dX0_standing_61 : decode cX0_standing 61 = .ok (.istore_n 1, 1) := by decide +kernel
theorem dX0_standing_62 : decode cX0_standing 62 = .ok (.iinc 2 1, 3) := by decide +kernel
theorem dX0_standing_65 : decode cX0_standing 65 = .ok (.goto (-41), 3) := by decide +kernel
theorem dX0_standing_68 : decode cX0_standing 68 = .ok (.iload_n 1, 1) := by decide +kernel
theorem dX0_standing_69 : decode cX0_standing 69 = .ok (.ireturn, 1) := by decide +kernel
theorem dX0_standingWithout_0 : decode cX0_standingWithout 0 = .ok (.aload_n 0, 1) := by decide +kernel
theorem dX0_standingWithout_1 : decode cX0_standingWithout 1 = .ok (.getfield 12, 3) := by decide +kernel
theorem dX0_standingWithout_4 : decode cX0_standingWithout 4 = .ok (.aload_n 0, 1) := by decide +kernel
theorem dX0_standingWithout_5 : decode cX0_standingWithout 5 = .ok (.getfield 22, 3) := by decide +kernel
theorem dX0_standingWithout_8 : decode cX0_standingWithout 8 = .ok (.invokevirtual 25, 3) := by decide +kernel
theorem dX0_standingWithout_11 : decode cX0_standingWithout 11 = .ok (.aload_n 0, 1) := by decide +kernel
theorem dX0_standingWithout_12 : decode cX0_standingWithout 12 = .ok (.getfield 12, 3) := by decide +kernel
theorem dX0_standingWithout_15 : decode cX0_standingWithout 15 = .ok (.iload_n 1, 1) := by decide +kernel
theorem dX0_standingWithout_16 : decode cX0_standingWithout 16 = .ok (.invokevirtual 50, 3) := by decide +kernel
theorem dX0_standingWithout_19 : decode cX0_standingWithout 19 = .ok (.aload_n 0, 1) := by decide +kernel
theorem dX0_standingWithout_20 : decode cX0_standingWithout 20 = .ok (.getfield 12, 3) := by decide +kernel
theorem dX0_standingWithout_23 : decode cX0_standingWithout 23 = .ok (.bipush 80, 2) := by decide +kernel
theorem dX0_standingWithout_25 : decode cX0_standingWithout 25 = .ok (.invokevirtual 29, 3) := by decide +kernel
theorem dX0_standingWithout_28 : decode cX0_standingWithout 28 = .ok (.iconst 0, 1) := by decide +kernel
theorem dX0_standingWithout_29 : decode cX0_standingWithout 29 = .ok (.istore_n 2, 1) := by decide +kernel
theorem dX0_standingWithout_30 : decode cX0_standingWithout 30 = .ok (.iconst 0, 1) := by decide +kernel
theorem dX0_standingWithout_31 : decode cX0_standingWithout 31 = .ok (.istore_n 3, 1) := by decide +kernel
theorem dX0_standingWithout_32 : decode cX0_standingWithout 32 = .ok (.iload_n 3, 1) := by decide +kernel
theorem dX0_standingWithout_33 : decode cX0_standingWithout 33 = .ok (.aload_n 0, 1) := by decide +kernel
theorem dX0_standingWithout_34 : decode cX0_standingWithout 34 = .ok (.getfield 12, 3) := by decide +kernel
theorem dX0_standingWithout_37 : decode cX0_standingWithout 37 = .ok (.getfield 43, 3) := by decide +kernel
theorem dX0_standingWithout_40 : decode cX0_standingWithout 40 = .ok (.if_icmp .ge 60, 3) := by decide +kernel
theorem dX0_standingWithout_43 : decode cX0_standingWithout 43 = .ok (.iload_n 3, 1) := by decide +kernel
theorem dX0_standingWithout_44 : decode cX0_standingWithout 44 = .ok (.iload_n 1, 1) := by decide +kernel
theorem dX0_standingWithout_45 : decode cX0_standingWithout 45 = .ok (.if_icmp .ge 7, 3) := by decide +kernel
theorem dX0_standingWithout_48 : decode cX0_standingWithout 48 = .ok (.iload_n 3, 1) := by decide +kernel
theorem dX0_standingWithout_49 : decode cX0_standingWithout 49 = .ok (.goto 6, 3) := by decide +kernel
theorem dX0_standingWithout_52 : decode cX0_standingWithout 52 = .ok (.iload_n 3, 1) := by decide +kernel
theorem dX0_standingWithout_53 : decode cX0_standingWithout 53 = .ok (.iconst 1, 1) := by decide +kernel
theorem dX0_standingWithout_54 : decode cX0_standingWithout 54 = .ok (.iadd, 1) := by decide +kernel
theorem dX0_standingWithout_55 : decode cX0_standingWithout 55 = .ok (.istore 4, 2) := by decide +kernel
theorem dX0_standingWithout_57 : decode cX0_standingWithout 57 = .ok (.iload 4, 2) := by decide +kernel
theorem dX0_standingWithout_59 : decode cX0_standingWithout 59 = .ok (.aload_n 0, 1) := by decide +kernel
theorem dX0_standingWithout_60 : decode cX0_standingWithout 60 = .ok (.getfield 22, 3) := by decide +kernel
theorem dX0_standingWithout_63 : decode cX0_standingWithout 63 = .ok (.getfield 43, 3) := by decide +kernel
theorem dX0_standingWithout_66 : decode cX0_standingWithout 66 = .ok (.if_icmp .ge 28, 3) := by decide +kernel
theorem dX0_standingWithout_69 : decode cX0_standingWithout 69 = .ok (.aload_n 0, 1) := by decide +kernel
theorem dX0_standingWithout_70 : decode cX0_standingWithout 70 = .ok (.getfield 12, 3) := by decide +kernel
theorem dX0_standingWithout_73 : decode cX0_standingWithout 73 = .ok (.getfield 47, 3) := by decide +kernel
theorem dX0_standingWithout_76 : decode cX0_standingWithout 76 = .ok (.iload_n 3, 1) := by decide +kernel
theorem dX0_standingWithout_77 : decode cX0_standingWithout 77 = .ok (.iaload, 1) := by decide +kernel
theorem dX0_standingWithout_78 : decode cX0_standingWithout 78 = .ok (.aload_n 0, 1) := by decide +kernel
theorem dX0_standingWithout_79 : decode cX0_standingWithout 79 = .ok (.getfield 22, 3) := by decide +kernel
theorem dX0_standingWithout_82 : decode cX0_standingWithout 82 = .ok (.getfield 47, 3) := by decide +kernel
theorem dX0_standingWithout_85 : decode cX0_standingWithout 85 = .ok (.iload 4, 2) := by decide +kernel
theorem dX0_standingWithout_87 : decode cX0_standingWithout 87 = .ok (.iaload, 1) := by decide +kernel
theorem dX0_standingWithout_88 : decode cX0_standingWithout 88 = .ok (.if_icmp .ne 6, 3) := by decide +kernel
theorem dX0_standingWithout_91 : decode cX0_standingWithout 91 = .ok (.iinc 2 1, 3) := by decide +kernel
theorem dX0_standingWithout_94 : decode cX0_standingWithout 94 = .ok (.iinc 3 1, 3) := by decide +kernel
theorem dX0_standingWithout_97 : decode cX0_standingWithout 97 = .ok (.goto (-65), 3) := by decide +kernel
theorem dX0_standingWithout_100 : decode cX0_standingWithout 100 = .ok (.iload_n 2, 1) := by decide +kernel
theorem dX0_standingWithout_101 : decode cX0_standingWithout 101 = .ok (.ireturn, 1) := by decide +kernel
theorem dX0_bestToLevel_0 : decode cX0_bestToLevel 0 = .ok (.aload_n 0, 1) := by decide +kernel
theorem dX0_bestToLevel_1 : decode cX0_bestToLevel 1 = .ok (.invokevirtual 53, 3) := by decide +kernel
theorem dX0_bestToLevel_4 : decode cX0_bestToLevel 4 = .ok (.invokestatic 57, 3) := by decide +kernel
theorem dX0_bestToLevel_7 : decode cX0_bestToLevel 7 = .ok (.istore_n 1, 1) := by decide +kernel
theorem dX0_bestToLevel_8 : decode cX0_bestToLevel 8 = .ok (.iconst (-1), 1) := by decide +kernel
theorem dX0_bestToLevel_9 : decode cX0_bestToLevel 9 = .ok (.istore_n 2, 1) := by decide +kernel
theorem dX0_bestToLevel_10 : decode cX0_bestToLevel 10 = .ok (.iconst 0, 1) := by decide +kernel
theorem dX0_bestToLevel_11 : decode cX0_bestToLevel 11 = .ok (.istore_n 3, 1) := by decide +kernel
theorem dX0_bestToLevel_12 : decode cX0_bestToLevel 12 = .ok (.iload_n 3, 1) := by decide +kernel
theorem dX0_bestToLevel_13 : decode cX0_bestToLevel 13 = .ok (.aload_n 0, 1) := by decide +kernel
theorem dX0_bestToLevel_14 : decode cX0_bestToLevel 14 = .ok (.getfield 22, 3) := by decide +kernel
theorem dX0_bestToLevel_17 : decode cX0_bestToLevel 17 = .ok (.getfield 43, 3) := by decide +kernel
theorem dX0_bestToLevel_20 : decode cX0_bestToLevel 20 = .ok (.if_icmp .ge 27, 3) := by decide +kernel
theorem dX0_bestToLevel_23 : decode cX0_bestToLevel 23 = .ok (.aload_n 0, 1) := by decide +kernel
theorem dX0_bestToLevel_24 : decode cX0_bestToLevel 24 = .ok (.iload_n 3, 1) := by decide +kernel
theorem dX0_bestToLevel_25 : decode cX0_bestToLevel 25 = .ok (.invokevirtual 63, 3) := by decide +kernel
theorem dX0_bestToLevel_28 : decode cX0_bestToLevel 28 = .ok (.istore 4, 2) := by decide +kernel
theorem dX0_bestToLevel_30 : decode cX0_bestToLevel 30 = .ok (.iload 4, 2) := by decide +kernel
theorem dX0_bestToLevel_32 : decode cX0_bestToLevel 32 = .ok (.iload_n 1, 1) := by decide +kernel
theorem dX0_bestToLevel_33 : decode cX0_bestToLevel 33 = .ok (.if_icmp .ge 8, 3) := by decide +kernel
theorem dX0_bestToLevel_36 : decode cX0_bestToLevel 36 = .ok (.iload 4, 2) := by decide +kernel
theorem dX0_bestToLevel_38 : decode cX0_bestToLevel 38 = .ok (.istore_n 1, 1) := by decide +kernel
theorem dX0_bestToLevel_39 : decode cX0_bestToLevel 39 = .ok (.iload_n 3, 1) := by decide +kernel
theorem dX0_bestToLevel_40 : decode cX0_bestToLevel 40 = .ok (.istore_n 2, 1) := by decide +kernel
theorem dX0_bestToLevel_41 : decode cX0_bestToLevel 41 = .ok (.iinc 3 1, 3) := by decide +kernel
theorem dX0_bestToLevel_44 : decode cX0_bestToLevel 44 = .ok (.goto (-32), 3) := by decide +kernel
theorem dX0_bestToLevel_47 : decode cX0_bestToLevel 47 = .ok (.iload_n 2, 1) := by decide +kernel
theorem dX0_bestToLevel_48 : decode cX0_bestToLevel 48 = .ok (.ireturn, 1) := by decide +kernel
theorem dX0_goneInTrial_0 : decode cX0_goneInTrial 0 = .ok (.aload_n 0, 1) := by decide +kernel
theorem dX0_goneInTrial_1 : decode cX0_goneInTrial 1 = .ok (.getfield 12, 3) := by decide +kernel
theorem dX0_goneInTrial_4 : decode cX0_goneInTrial 4 = .ok (.iload_n 2, 1) := by decide +kernel
theorem dX0_goneInTrial_5 : decode cX0_goneInTrial 5 = .ok (.invokevirtual 29, 3) := by decide +kernel
theorem dX0_goneInTrial_8 : decode cX0_goneInTrial 8 = .ok (.aload_n 0, 1) := by decide +kernel
theorem dX0_goneInTrial_9 : decode cX0_goneInTrial 9 = .ok (.getfield 12, 3) := by decide +kernel
theorem dX0_goneInTrial_12 : decode cX0_goneInTrial 12 = .ok (.getfield 47, 3) := by decide +kernel
theorem dX0_goneInTrial_15 : decode cX0_goneInTrial 15 = .ok (.iload_n 1, 1) := by decide +kernel
theorem dX0_goneInTrial_16 : decode cX0_goneInTrial 16 = .ok (.iaload, 1) := by decide +kernel
theorem dX0_goneInTrial_17 : decode cX0_goneInTrial 17 = .ok (.aload_n 0, 1) := by decide +kernel
theorem dX0_goneInTrial_18 : decode cX0_goneInTrial 18 = .ok (.getfield 22, 3) := by decide +kernel
theorem dX0_goneInTrial_21 : decode cX0_goneInTrial 21 = .ok (.getfield 47, 3) := by decide +kernel
theorem dX0_goneInTrial_24 : decode cX0_goneInTrial 24 = .ok (.iload_n 1, 1) := by decide +kernel
theorem dX0_goneInTrial_25 : decode cX0_goneInTrial 25 = .ok (.iaload, 1) := by decide +kernel
theorem dX0_goneInTrial_26 : decode cX0_goneInTrial 26 = .ok (.isub, 1) := by decide +kernel
theorem dX0_goneInTrial_27 : decode cX0_goneInTrial 27 = .ok (.ireturn, 1) := by decide +kernel
theorem dX0_leastHaste_0 : decode cX0_leastHaste 0 = .ok (.iconst 0, 1) := by decide +kernel
theorem dX0_leastHaste_1 : decode cX0_leastHaste 1 = .ok (.istore 4, 2) := by decide +kernel
theorem dX0_leastHaste_3 : decode cX0_leastHaste 3 = .ok (.iload 4, 2) := by decide +kernel
theorem dX0_leastHaste_5 : decode cX0_leastHaste 5 = .ok (.bipush 9, 2) := by decide +kernel
theorem dX0_leastHaste_7 : decode cX0_leastHaste 7 = .ok (.if_icmp .gt 44, 3) := by decide +kernel
theorem dX0_leastHaste_10 : decode cX0_leastHaste 10 = .ok (.aload_n 0, 1) := by decide +kernel
theorem dX0_leastHaste_11 : decode cX0_leastHaste 11 = .ok (.getfield 12, 3) := by decide +kernel
theorem dX0_leastHaste_14 : decode cX0_leastHaste 14 = .ok (.aload_n 0, 1) := by decide +kernel
theorem dX0_leastHaste_15 : decode cX0_leastHaste 15 = .ok (.getfield 22, 3) := by decide +kernel
theorem dX0_leastHaste_18 : decode cX0_leastHaste 18 = .ok (.invokevirtual 25, 3) := by decide +kernel
theorem dX0_leastHaste_21 : decode cX0_leastHaste 21 = .ok (.aload_n 0, 1) := by decide +kernel
theorem dX0_leastHaste_22 : decode cX0_leastHaste 22 = .ok (.getfield 12, 3) := by decide +kernel
theorem dX0_leastHaste_25 : decode cX0_leastHaste 25 = .ok (.getfield 66, 3) := by decide +kernel
theorem dX0_leastHaste_28 : decode cX0_leastHaste 28 = .ok (.iload_n 1, 1) := by decide +kernel
theorem dX0_leastHaste_29 : decode cX0_leastHaste 29 = .ok (.iload 4, 2) := by decide +kernel
theorem dX0_leastHaste_31 : decode cX0_leastHaste 31 = .ok (.iastore, 1) := by decide +kernel
theorem dX0_leastHaste_32 : decode cX0_leastHaste 32 = .ok (.aload_n 0, 1) := by decide +kernel
theorem dX0_leastHaste_33 : decode cX0_leastHaste 33 = .ok (.iload_n 1, 1) := by decide +kernel
theorem dX0_leastHaste_34 : decode cX0_leastHaste 34 = .ok (.iload_n 3, 1) := by decide +kernel
theorem dX0_leastHaste_35 : decode cX0_leastHaste 35 = .ok (.invokevirtual 69, 3) := by decide +kernel
theorem dX0_leastHaste_38 : decode cX0_leastHaste 38 = .ok (.iload_n 2, 1) := by decide +kernel
theorem dX0_leastHaste_39 : decode cX0_leastHaste 39 = .ok (.if_icmp .lt 6, 3) := by decide +kernel
theorem dX0_leastHaste_42 : decode cX0_leastHaste 42 = .ok (.iload 4, 2) := by decide +kernel
theorem dX0_leastHaste_44 : decode cX0_leastHaste 44 = .ok (.ireturn, 1) := by decide +kernel
theorem dX0_leastHaste_45 : decode cX0_leastHaste 45 = .ok (.iinc 4 1, 3) := by decide +kernel
theorem dX0_leastHaste_48 : decode cX0_leastHaste 48 = .ok (.goto (-45), 3) := by decide +kernel
theorem dX0_leastHaste_51 : decode cX0_leastHaste 51 = .ok (.iconst (-1), 1) := by decide +kernel
theorem dX0_leastHaste_52 : decode cX0_leastHaste 52 = .ok (.ireturn, 1) := by decide +kernel
theorem dX0_bestWeight_0 : decode cX0_bestWeight 0 = .ok (.iconst (-1), 1) := by decide +kernel
theorem dX0_bestWeight_1 : decode cX0_bestWeight 1 = .ok (.istore_n 3, 1) := by decide +kernel
theorem dX0_bestWeight_2 : decode cX0_bestWeight 2 = .ok (.bipush (-9), 2) := by decide +kernel
theorem dX0_bestWeight_4 : decode cX0_bestWeight 4 = .ok (.istore 4, 2) := by decide +kernel
theorem dX0_bestWeight_6 : decode cX0_bestWeight 6 = .ok (.bipush (-9), 2) := by decide +kernel
theorem dX0_bestWeight_8 : decode cX0_bestWeight 8 = .ok (.istore 5, 2) := by decide +kernel
theorem dX0_bestWeight_10 : decode cX0_bestWeight 10 = .ok (.iload 5, 2) := by decide +kernel
theorem dX0_bestWeight_12 : decode cX0_bestWeight 12 = .ok (.bipush 9, 2) := by decide +kernel
theorem dX0_bestWeight_14 : decode cX0_bestWeight 14 = .ok (.if_icmp .gt 62, 3) := by decide +kernel
theorem dX0_bestWeight_17 : decode cX0_bestWeight 17 = .ok (.aload_n 0, 1) := by decide +kernel
theorem dX0_bestWeight_18 : decode cX0_bestWeight 18 = .ok (.getfield 12, 3) := by decide +kernel
theorem dX0_bestWeight_21 : decode cX0_bestWeight 21 = .ok (.aload_n 0, 1) := by decide +kernel
theorem dX0_bestWeight_22 : decode cX0_bestWeight 22 = .ok (.getfield 22, 3) := by decide +kernel
theorem dX0_bestWeight_25 : decode cX0_bestWeight 25 = .ok (.invokevirtual 25, 3) := by decide +kernel
theorem dX0_bestWeight_28 : decode cX0_bestWeight 28 = .ok (.aload_n 0, 1) := by decide +kernel
theorem dX0_bestWeight_29 : decode cX0_bestWeight 29 = .ok (.getfield 12, 3) := by decide +kernel
theorem dX0_bestWeight_32 : decode cX0_bestWeight 32 = .ok (.getfield 73, 3) := by decide +kernel
theorem dX0_bestWeight_35 : decode cX0_bestWeight 35 = .ok (.iload_n 1, 1) := by decide +kernel
theorem dX0_bestWeight_36 : decode cX0_bestWeight 36 = .ok (.iload 5, 2) := by decide +kernel
theorem dX0_bestWeight_38 : decode cX0_bestWeight 38 = .ok (.iastore, 1) := by decide +kernel
theorem dX0_bestWeight_39 : decode cX0_bestWeight 39 = .ok (.aload_n 0, 1) := by decide +kernel
theorem dX0_bestWeight_40 : decode cX0_bestWeight 40 = .ok (.getfield 12, 3) := by decide +kernel
theorem dX0_bestWeight_43 : decode cX0_bestWeight 43 = .ok (.iload_n 2, 1) := by decide +kernel
theorem dX0_bestWeight_44 : decode cX0_bestWeight 44 = .ok (.invokevirtual 29, 3) := by decide +kernel
theorem dX0_bestWeight_47 : decode cX0_bestWeight 47 = .ok (.aload_n 0, 1) := by decide +kernel
theorem dX0_bestWeight_48 : decode cX0_bestWeight 48 = .ok (.getfield 12, 3) := by decide +kernel
theorem dX0_bestWeight_51 : decode cX0_bestWeight 51 = .ok (.invokevirtual 76, 3) := by decide +kernel
theorem dX0_bestWeight_54 : decode cX0_bestWeight 54 = .ok (.iload_n 3, 1) := by decide +kernel
theorem dX0_bestWeight_55 : decode cX0_bestWeight 55 = .ok (.if_icmp .le 15, 3) := by decide +kernel
theorem dX0_bestWeight_58 : decode cX0_bestWeight 58 = .ok (.aload_n 0, 1) := by decide +kernel
theorem dX0_bestWeight_59 : decode cX0_bestWeight 59 = .ok (.getfield 12, 3) := by decide +kernel
theorem dX0_bestWeight_62 : decode cX0_bestWeight 62 = .ok (.invokevirtual 76, 3) := by decide +kernel
theorem dX0_bestWeight_65 : decode cX0_bestWeight 65 = .ok (.istore_n 3, 1) := by decide +kernel
theorem dX0_bestWeight_66 : decode cX0_bestWeight 66 = .ok (.iload 5, 2) := by decide +kernel
theorem dX0_bestWeight_68 : decode cX0_bestWeight 68 = .ok (.istore 4, 2) := by decide +kernel
theorem dX0_bestWeight_70 : decode cX0_bestWeight 70 = .ok (.iinc 5 1, 3) := by decide +kernel
theorem dX0_bestWeight_73 : decode cX0_bestWeight 73 = .ok (.goto (-63), 3) := by decide +kernel
theorem dX0_bestWeight_76 : decode cX0_bestWeight 76 = .ok (.iload 4, 2) := by decide +kernel
theorem dX0_bestWeight_78 : decode cX0_bestWeight 78 = .ok (.ireturn, 1) := by decide +kernel
theorem dX0_bestCell_0 : decode cX0_bestCell 0 = .ok (.iconst (-1), 1) := by decide +kernel
theorem dX0_bestCell_1 : decode cX0_bestCell 1 = .ok (.istore_n 3, 1) := by decide +kernel
theorem dX0_bestCell_2 : decode cX0_bestCell 2 = .ok (.aload_n 0, 1) := by decide +kernel
theorem dX0_bestCell_3 : decode cX0_bestCell 3 = .ok (.getfield 22, 3) := by decide +kernel
theorem dX0_bestCell_6 : decode cX0_bestCell 6 = .ok (.getfield 33, 3) := by decide +kernel
theorem dX0_bestCell_9 : decode cX0_bestCell 9 = .ok (.iload_n 1, 1) := by decide +kernel
theorem dX0_bestCell_10 : decode cX0_bestCell 10 = .ok (.iaload, 1) := by decide +kernel
theorem dX0_bestCell_11 : decode cX0_bestCell 11 = .ok (.istore 4, 2) := by decide +kernel
theorem dX0_bestCell_13 : decode cX0_bestCell 13 = .ok (.iconst 0, 1) := by decide +kernel
theorem dX0_bestCell_14 : decode cX0_bestCell 14 = .ok (.istore 5, 2) := by decide +kernel
theorem dX0_bestCell_16 : decode cX0_bestCell 16 = .ok (.iload 5, 2) := by decide +kernel
theorem dX0_bestCell_18 : decode cX0_bestCell 18 = .ok (.bipush 24, 2) := by decide +kernel
theorem dX0_bestCell_20 : decode cX0_bestCell 20 = .ok (.if_icmp .ge 77, 3) := by decide +kernel
theorem dX0_bestCell_23 : decode cX0_bestCell 23 = .ok (.aload_n 0, 1) := by decide +kernel
theorem dX0_bestCell_24 : decode cX0_bestCell 24 = .ok (.getfield 22, 3) := by decide +kernel
theorem dX0_bestCell_27 : decode cX0_bestCell 27 = .ok (.iload 5, 2) := by decide +kernel
theorem dX0_bestCell_29 : decode cX0_bestCell 29 = .ok (.invokevirtual 79, 3) := by decide +kernel
theorem dX0_bestCell_32 : decode cX0_bestCell 32 = .ok (.istore 6, 2) := by decide +kernel
theorem dX0_bestCell_34 : decode cX0_bestCell 34 = .ok (.iload 6, 2) := by decide +kernel
theorem dX0_bestCell_36 : decode cX0_bestCell 36 = .ok (.ifCond .lt 12, 3) := by decide +kernel
theorem dX0_bestCell_39 : decode cX0_bestCell 39 = .ok (.iload 6, 2) := by decide +kernel
theorem dX0_bestCell_41 : decode cX0_bestCell 41 = .ok (.iload_n 1, 1) := by decide +kernel
theorem dX0_bestCell_42 : decode cX0_bestCell 42 = .ok (.if_icmp .eq 6, 3) := by decide +kernel
theorem dX0_bestCell_45 : decode cX0_bestCell 45 = .ok (.goto 46, 3) := by decide +kernel
theorem dX0_bestCell_48 : decode cX0_bestCell 48 = .ok (.aload_n 0, 1) := by decide +kernel
theorem dX0_bestCell_49 : decode cX0_bestCell 49 = .ok (.getfield 12, 3) := by decide +kernel
theorem dX0_bestCell_52 : decode cX0_bestCell 52 = .ok (.aload_n 0, 1) := by decide +kernel
theorem dX0_bestCell_53 : decode cX0_bestCell 53 = .ok (.getfield 22, 3) := by decide +kernel
theorem dX0_bestCell_56 : decode cX0_bestCell 56 = .ok (.invokevirtual 25, 3) := by decide +kernel
theorem dX0_bestCell_59 : decode cX0_bestCell 59 = .ok (.aload_n 0, 1) := by decide +kernel
theorem dX0_bestCell_60 : decode cX0_bestCell 60 = .ok (.getfield 12, 3) := by decide +kernel
theorem dX0_bestCell_63 : decode cX0_bestCell 63 = .ok (.getfield 33, 3) := by decide +kernel
theorem dX0_bestCell_66 : decode cX0_bestCell 66 = .ok (.iload_n 1, 1) := by decide +kernel
theorem dX0_bestCell_67 : decode cX0_bestCell 67 = .ok (.iload 5, 2) := by decide +kernel
theorem dX0_bestCell_69 : decode cX0_bestCell 69 = .ok (.iastore, 1) := by decide +kernel
theorem dX0_bestCell_70 : decode cX0_bestCell 70 = .ok (.aload_n 0, 1) := by decide +kernel
theorem dX0_bestCell_71 : decode cX0_bestCell 71 = .ok (.iload_n 1, 1) := by decide +kernel
theorem dX0_bestCell_72 : decode cX0_bestCell 72 = .ok (.iload_n 2, 1) := by decide +kernel
theorem dX0_bestCell_73 : decode cX0_bestCell 73 = .ok (.invokevirtual 69, 3) := by decide +kernel
theorem dX0_bestCell_76 : decode cX0_bestCell 76 = .ok (.istore 7, 2) := by decide +kernel
theorem dX0_bestCell_78 : decode cX0_bestCell 78 = .ok (.iload 7, 2) := by decide +kernel
theorem dX0_bestCell_80 : decode cX0_bestCell 80 = .ok (.iload_n 3, 1) := by decide +kernel
theorem dX0_bestCell_81 : decode cX0_bestCell 81 = .ok (.if_icmp .le 10, 3) := by decide +kernel
theorem dX0_bestCell_84 : decode cX0_bestCell 84 = .ok (.iload 7, 2) := by decide +kernel
theorem dX0_bestCell_86 : decode cX0_bestCell 86 = .ok (.istore_n 3, 1) := by decide +kernel
theorem dX0_bestCell_87 : decode cX0_bestCell 87 = .ok (.iload 5, 2) := by decide +kernel
theorem dX0_bestCell_89 : decode cX0_bestCell 89 = .ok (.istore 4, 2) := by decide +kernel
theorem dX0_bestCell_91 : decode cX0_bestCell 91 = .ok (.iinc 5 1, 3) := by decide +kernel
theorem dX0_bestCell_94 : decode cX0_bestCell 94 = .ok (.goto (-78), 3) := by decide +kernel
theorem dX0_bestCell_97 : decode cX0_bestCell 97 = .ok (.iload 4, 2) := by decide +kernel
theorem dX0_bestCell_99 : decode cX0_bestCell 99 = .ok (.ireturn, 1) := by decide +kernel
theorem dX0_bestKind_0 : decode cX0_bestKind 0 = .ok (.iconst (-1), 1) := by decide +kernel
theorem dX0_bestKind_1 : decode cX0_bestKind 1 = .ok (.istore_n 3, 1) := by decide +kernel
theorem dX0_bestKind_2 : decode cX0_bestKind 2 = .ok (.iconst 0, 1) := by decide +kernel
theorem dX0_bestKind_3 : decode cX0_bestKind 3 = .ok (.istore 4, 2) := by decide +kernel
theorem dX0_bestKind_5 : decode cX0_bestKind 5 = .ok (.iconst 0, 1) := by decide +kernel
theorem dX0_bestKind_6 : decode cX0_bestKind 6 = .ok (.istore 5, 2) := by decide +kernel
theorem dX0_bestKind_8 : decode cX0_bestKind 8 = .ok (.iload 5, 2) := by decide +kernel
theorem dX0_bestKind_10 : decode cX0_bestKind 10 = .ok (.bipush 6, 2) := by decide +kernel
theorem dX0_bestKind_12 : decode cX0_bestKind 12 = .ok (.if_icmp .ge 52, 3) := by decide +kernel
theorem dX0_bestKind_15 : decode cX0_bestKind 15 = .ok (.aload_n 0, 1) := by decide +kernel
theorem dX0_bestKind_16 : decode cX0_bestKind 16 = .ok (.getfield 12, 3) := by decide +kernel
theorem dX0_bestKind_19 : decode cX0_bestKind 19 = .ok (.aload_n 0, 1) := by decide +kernel
theorem dX0_bestKind_20 : decode cX0_bestKind 20 = .ok (.getfield 22, 3) := by decide +kernel
theorem dX0_bestKind_23 : decode cX0_bestKind 23 = .ok (.invokevirtual 25, 3) := by decide +kernel
theorem dX0_bestKind_26 : decode cX0_bestKind 26 = .ok (.aload_n 0, 1) := by decide +kernel
theorem dX0_bestKind_27 : decode cX0_bestKind 27 = .ok (.getfield 12, 3) := by decide +kernel
theorem dX0_bestKind_30 : decode cX0_bestKind 30 = .ok (.getfield 82, 3) := by decide +kernel
theorem dX0_bestKind_33 : decode cX0_bestKind 33 = .ok (.iload_n 1, 1) := by decide +kernel
theorem dX0_bestKind_34 : decode cX0_bestKind 34 = .ok (.iload 5, 2) := by decide +kernel
theorem dX0_bestKind_36 : decode cX0_bestKind 36 = .ok (.iastore, 1) := by decide +kernel
theorem dX0_bestKind_37 : decode cX0_bestKind 37 = .ok (.aload_n 0, 1) := by decide +kernel
theorem dX0_bestKind_38 : decode cX0_bestKind 38 = .ok (.iload_n 1, 1) := by decide +kernel
theorem dX0_bestKind_39 : decode cX0_bestKind 39 = .ok (.iload_n 2, 1) := by decide +kernel
theorem dX0_bestKind_40 : decode cX0_bestKind 40 = .ok (.invokevirtual 69, 3) := by decide +kernel
theorem dX0_bestKind_43 : decode cX0_bestKind 43 = .ok (.istore 6, 2) := by decide +kernel
theorem dX0_bestKind_45 : decode cX0_bestKind 45 = .ok (.iload 6, 2) := by decide +kernel
theorem dX0_bestKind_47 : decode cX0_bestKind 47 = .ok (.iload_n 3, 1) := by decide +kernel
theorem dX0_bestKind_48 : decode cX0_bestKind 48 = .ok (.if_icmp .le 10, 3) := by decide +kernel
theorem dX0_bestKind_51 : decode cX0_bestKind 51 = .ok (.iload 6, 2) := by decide +kernel
theorem dX0_bestKind_53 : decode cX0_bestKind 53 = .ok (.istore_n 3, 1) := by decide +kernel
theorem dX0_bestKind_54 : decode cX0_bestKind 54 = .ok (.iload 5, 2) := by decide +kernel
theorem dX0_bestKind_56 : decode cX0_bestKind 56 = .ok (.istore 4, 2) := by decide +kernel
theorem dX0_bestKind_58 : decode cX0_bestKind 58 = .ok (.iinc 5 1, 3) := by decide +kernel
theorem dX0_bestKind_61 : decode cX0_bestKind 61 = .ok (.goto (-53), 3) := by decide +kernel
theorem dX0_bestKind_64 : decode cX0_bestKind 64 = .ok (.iload 4, 2) := by decide +kernel
theorem dX0_bestKind_66 : decode cX0_bestKind 66 = .ok (.ireturn, 1) := by decide +kernel
theorem dX0_bestPair_0 : decode cX0_bestPair 0 = .ok (.aload_n 0, 1) := by decide +kernel
theorem dX0_bestPair_1 : decode cX0_bestPair 1 = .ok (.iload_n 1, 1) := by decide +kernel
theorem dX0_bestPair_2 : decode cX0_bestPair 2 = .ok (.invokevirtual 85, 3) := by decide +kernel
theorem dX0_bestPair_5 : decode cX0_bestPair 5 = .ok (.invokevirtual 76, 3) := by decide +kernel
theorem dX0_bestPair_8 : decode cX0_bestPair 8 = .ok (.istore_n 2, 1) := by decide +kernel
theorem dX0_bestPair_9 : decode cX0_bestPair 9 = .ok (.iconst (-1), 1) := by decide +kernel
theorem dX0_bestPair_10 : decode cX0_bestPair 10 = .ok (.istore_n 3, 1) := by decide +kernel
theorem dX0_bestPair_11 : decode cX0_bestPair 11 = .ok (.iconst 0, 1) := by decide +kernel
theorem dX0_bestPair_12 : decode cX0_bestPair 12 = .ok (.istore 4, 2) := by decide +kernel
theorem dX0_bestPair_14 : decode cX0_bestPair 14 = .ok (.iload 4, 2) := by decide +kernel
theorem dX0_bestPair_16 : decode cX0_bestPair 16 = .ok (.aload_n 0, 1) := by decide +kernel
theorem dX0_bestPair_17 : decode cX0_bestPair 17 = .ok (.getfield 22, 3) := by decide +kernel
theorem dX0_bestPair_20 : decode cX0_bestPair 20 = .ok (.getfield 43, 3) := by decide +kernel
theorem dX0_bestPair_23 : decode cX0_bestPair 23 = .ok (.if_icmp .ge 91, 3) := by decide +kernel
theorem dX0_bestPair_26 : decode cX0_bestPair 26 = .ok (.iload 4, 2) := by decide +kernel
theorem dX0_bestPair_28 : decode cX0_bestPair 28 = .ok (.iconst 1, 1) := by decide +kernel
theorem dX0_bestPair_29 : decode cX0_bestPair 29 = .ok (.iadd, 1) := by decide +kernel
theorem dX0_bestPair_30 : decode cX0_bestPair 30 = .ok (.istore 5, 2) := by decide +kernel
theorem dX0_bestPair_32 : decode cX0_bestPair 32 = .ok (.iload 5, 2) := by decide +kernel
theorem dX0_bestPair_34 : decode cX0_bestPair 34 = .ok (.aload_n 0, 1) := by decide +kernel
theorem dX0_bestPair_35 : decode cX0_bestPair 35 = .ok (.getfield 22, 3) := by decide +kernel
theorem dX0_bestPair_38 : decode cX0_bestPair 38 = .ok (.getfield 43, 3) := by decide +kernel
theorem dX0_bestPair_41 : decode cX0_bestPair 41 = .ok (.if_icmp .ge 67, 3) := by decide +kernel
theorem dX0_bestPair_44 : decode cX0_bestPair 44 = .ok (.aload_n 0, 1) := by decide +kernel
theorem dX0_bestPair_45 : decode cX0_bestPair 45 = .ok (.getfield 12, 3) := by decide +kernel
theorem dX0_bestPair_48 : decode cX0_bestPair 48 = .ok (.aload_n 0, 1) := by decide +kernel
theorem dX0_bestPair_49 : decode cX0_bestPair 49 = .ok (.getfield 22, 3) := by decide +kernel
theorem dX0_bestPair_52 : decode cX0_bestPair 52 = .ok (.invokevirtual 25, 3) := by decide +kernel
theorem dX0_bestPair_55 : decode cX0_bestPair 55 = .ok (.aload_n 0, 1) := by decide +kernel
theorem dX0_bestPair_56 : decode cX0_bestPair 56 = .ok (.getfield 12, 3) := by decide +kernel
theorem dX0_bestPair_59 : decode cX0_bestPair 59 = .ok (.iload 4, 2) := by decide +kernel
theorem dX0_bestPair_61 : decode cX0_bestPair 61 = .ok (.iload 5, 2) := by decide +kernel
theorem dX0_bestPair_63 : decode cX0_bestPair 63 = .ok (.invokevirtual 89, 3) := by decide +kernel
theorem dX0_bestPair_66 : decode cX0_bestPair 66 = .ok (.aload_n 0, 1) := by decide +kernel
theorem dX0_bestPair_67 : decode cX0_bestPair 67 = .ok (.getfield 12, 3) := by decide +kernel
theorem dX0_bestPair_70 : decode cX0_bestPair 70 = .ok (.iload_n 1, 1) := by decide +kernel
theorem dX0_bestPair_71 : decode cX0_bestPair 71 = .ok (.invokevirtual 29, 3) := by decide +kernel
theorem dX0_bestPair_74 : decode cX0_bestPair 74 = .ok (.aload_n 0, 1) := by decide +kernel
theorem dX0_bestPair_75 : decode cX0_bestPair 75 = .ok (.getfield 12, 3) := by decide +kernel
theorem dX0_bestPair_78 : decode cX0_bestPair 78 = .ok (.invokevirtual 76, 3) := by decide +kernel
theorem dX0_bestPair_81 : decode cX0_bestPair 81 = .ok (.iload_n 2, 1) := by decide +kernel
theorem dX0_bestPair_82 : decode cX0_bestPair 82 = .ok (.if_icmp .le 20, 3) := by decide +kernel
theorem dX0_bestPair_85 : decode cX0_bestPair 85 = .ok (.aload_n 0, 1) := by decide +kernel
theorem dX0_bestPair_86 : decode cX0_bestPair 86 = .ok (.getfield 12, 3) := by decide +kernel
theorem dX0_bestPair_89 : decode cX0_bestPair 89 = .ok (.invokevirtual 76, 3) := by decide +kernel
theorem dX0_bestPair_92 : decode cX0_bestPair 92 = .ok (.istore_n 2, 1) := by decide +kernel
theorem dX0_bestPair_93 : decode cX0_bestPair 93 = .ok (.bipush 10, 2) := by decide +kernel
theorem dX0_bestPair_95 : decode cX0_bestPair 95 = .ok (.iload 4, 2) := by decide +kernel
theorem dX0_bestPair_97 : decode cX0_bestPair 97 = .ok (.imul, 1) := by decide +kernel
theorem dX0_bestPair_98 : decode cX0_bestPair 98 = .ok (.iload 5, 2) := by decide +kernel
theorem dX0_bestPair_100 : decode cX0_bestPair 100 = .ok (.iadd, 1) := by decide +kernel
theorem dX0_bestPair_101 : decode cX0_bestPair 101 = .ok (.istore_n 3, 1) := by decide +kernel
theorem dX0_bestPair_102 : decode cX0_bestPair 102 = .ok (.iinc 5 1, 3) := by decide +kernel
theorem dX0_bestPair_105 : decode cX0_bestPair 105 = .ok (.goto (-73), 3) := by decide +kernel
theorem dX0_bestPair_108 : decode cX0_bestPair 108 = .ok (.iinc 4 1, 3) := by decide +kernel
theorem dX0_bestPair_111 : decode cX0_bestPair 111 = .ok (.goto (-97), 3) := by decide +kernel
theorem dX0_bestPair_114 : decode cX0_bestPair 114 = .ok (.iload_n 3, 1) := by decide +kernel
theorem dX0_bestPair_115 : decode cX0_bestPair 115 = .ok (.ireturn, 1) := by decide +kernel
theorem dX0_journeyLength_0 : decode cX0_journeyLength 0 = .ok (.aload_n 0, 1) := by decide +kernel
theorem dX0_journeyLength_1 : decode cX0_journeyLength 1 = .ok (.bipush 80, 2) := by decide +kernel
theorem dX0_journeyLength_3 : decode cX0_journeyLength 3 = .ok (.invokevirtual 93, 3) := by decide +kernel
theorem dX0_journeyLength_6 : decode cX0_journeyLength 6 = .ok (.aload_n 0, 1) := by decide +kernel
theorem dX0_journeyLength_7 : decode cX0_journeyLength 7 = .ok (.iload_n 1, 1) := by decide +kernel
theorem dX0_journeyLength_8 : decode cX0_journeyLength 8 = .ok (.iload_n 2, 1) := by decide +kernel
theorem dX0_journeyLength_9 : decode cX0_journeyLength 9 = .ok (.iconst 0, 1) := by decide +kernel
theorem dX0_journeyLength_10 : decode cX0_journeyLength 10 = .ok (.invokevirtual 96, 3) := by decide +kernel
theorem dX0_journeyLength_13 : decode cX0_journeyLength 13 = .ok (.ireturn, 1) := by decide +kernel
theorem dX0_bestDelay_0 : decode cX0_bestDelay 0 = .ok (.aload_n 0, 1) := by decide +kernel
theorem dX0_bestDelay_1 : decode cX0_bestDelay 1 = .ok (.bipush 100, 2) := by decide +kernel
theorem dX0_bestDelay_3 : decode cX0_bestDelay 3 = .ok (.invokevirtual 93, 3) := by decide +kernel
theorem dX0_bestDelay_6 : decode cX0_bestDelay 6 = .ok (.bipush 81, 2) := by decide +kernel
theorem dX0_bestDelay_8 : decode cX0_bestDelay 8 = .ok (.istore_n 3, 1) := by decide +kernel
theorem dX0_bestDelay_9 : decode cX0_bestDelay 9 = .ok (.iconst (-1), 1) := by decide +kernel
theorem dX0_bestDelay_10 : decode cX0_bestDelay 10 = .ok (.istore 4, 2) := by decide +kernel
theorem dX0_bestDelay_12 : decode cX0_bestDelay 12 = .ok (.iconst 0, 1) := by decide +kernel
theorem dX0_bestDelay_13 : decode cX0_bestDelay 13 = .ok (.istore 5, 2) := by decide +kernel
theorem dX0_bestDelay_15 : decode cX0_bestDelay 15 = .ok (.iload 5, 2) := by decide +kernel
theorem dX0_bestDelay_17 : decode cX0_bestDelay 17 = .ok (.bipush 20, 2) := by decide +kernel
theorem dX0_bestDelay_19 : decode cX0_bestDelay 19 = .ok (.if_icmp .gt 37, 3) := by decide +kernel
theorem dX0_bestDelay_22 : decode cX0_bestDelay 22 = .ok (.aload_n 0, 1) := by decide +kernel
theorem dX0_bestDelay_23 : decode cX0_bestDelay 23 = .ok (.iload_n 1, 1) := by decide +kernel
theorem dX0_bestDelay_24 : decode cX0_bestDelay 24 = .ok (.iload_n 2, 1) := by decide +kernel
theorem dX0_bestDelay_25 : decode cX0_bestDelay 25 = .ok (.iload 5, 2) := by decide +kernel
theorem dX0_bestDelay_27 : decode cX0_bestDelay 27 = .ok (.invokevirtual 96, 3) := by decide +kernel
theorem dX0_bestDelay_30 : decode cX0_bestDelay 30 = .ok (.istore 6, 2) := by decide +kernel
theorem dX0_bestDelay_32 : decode cX0_bestDelay 32 = .ok (.iload 6, 2) := by decide +kernel
theorem dX0_bestDelay_34 : decode cX0_bestDelay 34 = .ok (.ifCond .lt 16, 3) := by decide +kernel
theorem dX0_bestDelay_37 : decode cX0_bestDelay 37 = .ok (.iload 6, 2) := by decide +kernel
theorem dX0_bestDelay_39 : decode cX0_bestDelay 39 = .ok (.iload_n 3, 1) := by decide +kernel
theorem dX0_bestDelay_40 : decode cX0_bestDelay 40 = .ok (.if_icmp .ge 10, 3) := by decide +kernel
theorem dX0_bestDelay_43 : decode cX0_bestDelay 43 = .ok (.iload 6, 2) := by decide +kernel
theorem dX0_bestDelay_45 : decode cX0_bestDelay 45 = .ok (.istore_n 3, 1) := by decide +kernel
theorem dX0_bestDelay_46 : decode cX0_bestDelay 46 = .ok (.iload 5, 2) := by decide +kernel
theorem dX0_bestDelay_48 : decode cX0_bestDelay 48 = .ok (.istore 4, 2) := by decide +kernel
theorem dX0_bestDelay_50 : decode cX0_bestDelay 50 = .ok (.iinc 5 1, 3) := by decide +kernel
theorem dX0_bestDelay_53 : decode cX0_bestDelay 53 = .ok (.goto (-38), 3) := by decide +kernel
theorem dX0_bestDelay_56 : decode cX0_bestDelay 56 = .ok (.iload 4, 2) := by decide +kernel
theorem dX0_bestDelay_58 : decode cX0_bestDelay 58 = .ok (.ireturn, 1) := by decide +kernel
theorem dX0_lookForBlockedCells_0 : decode cX0_lookForBlockedCells 0 = .ok (.aload_n 0, 1) := by decide +kernel
theorem dX0_lookForBlockedCells_1 : decode cX0_lookForBlockedCells 1 = .ok (.getfield 12, 3) := by decide +kernel
theorem dX0_lookForBlockedCells_4 : decode cX0_lookForBlockedCells 4 = .ok (.aload_n 0, 1) := by decide +kernel
theorem dX0_lookForBlockedCells_5 : decode cX0_lookForBlockedCells 5 = .ok (.getfield 22, 3) := by decide +kernel
theorem dX0_lookForBlockedCells_8 : decode cX0_lookForBlockedCells 8 = .ok (.invokevirtual 25, 3) := by decide +kernel
theorem dX0_lookForBlockedCells_11 : decode cX0_lookForBlockedCells 11 = .ok (.iconst 0, 1) := by decide +kernel
theorem dX0_lookForBlockedCells_12 : decode cX0_lookForBlockedCells 12 = .ok (.istore_n 2, 1) := by decide +kernel
theorem dX0_lookForBlockedCells_13 : decode cX0_lookForBlockedCells 13 = .ok (.iload_n 2, 1) := by decide +kernel
theorem dX0_lookForBlockedCells_14 : decode cX0_lookForBlockedCells 14 = .ok (.iload_n 1, 1) := by decide +kernel
theorem dX0_lookForBlockedCells_15 : decode cX0_lookForBlockedCells 15 = .ok (.if_icmp .ge 46, 3) := by decide +kernel
theorem dX0_lookForBlockedCells_18 : decode cX0_lookForBlockedCells 18 = .ok (.iload_n 2, 1) := by decide +kernel
theorem dX0_lookForBlockedCells_19 : decode cX0_lookForBlockedCells 19 = .ok (.aload_n 0, 1) := by decide +kernel
theorem dX0_lookForBlockedCells_20 : decode cX0_lookForBlockedCells 20 = .ok (.getfield 18, 3) := by decide +kernel
theorem dX0_lookForBlockedCells_23 : decode cX0_lookForBlockedCells 23 = .ok (.arraylength, 1) := by decide +kernel
theorem dX0_lookForBlockedCells_24 : decode cX0_lookForBlockedCells 24 = .ok (.if_icmp .ge 37, 3) := by decide +kernel
theorem dX0_lookForBlockedCells_27 : decode cX0_lookForBlockedCells 27 = .ok (.aload_n 0, 1) := by decide +kernel
theorem dX0_lookForBlockedCells_28 : decode cX0_lookForBlockedCells 28 = .ok (.getfield 18, 3) := by decide +kernel
theorem dX0_lookForBlockedCells_31 : decode cX0_lookForBlockedCells 31 = .ok (.iload_n 2, 1) := by decide +kernel
theorem dX0_lookForBlockedCells_32 : decode cX0_lookForBlockedCells 32 = .ok (.aload_n 0, 1) := by decide +kernel
theorem dX0_lookForBlockedCells_33 : decode cX0_lookForBlockedCells 33 = .ok (.getfield 12, 3) := by decide +kernel
theorem dX0_lookForBlockedCells_36 : decode cX0_lookForBlockedCells 36 = .ok (.invokevirtual 100, 3) := by decide +kernel
theorem dX0_lookForBlockedCells_39 : decode cX0_lookForBlockedCells 39 = .ok (.aload_n 0, 1) := by decide +kernel
theorem dX0_lookForBlockedCells_40 : decode cX0_lookForBlockedCells 40 = .ok (.getfield 12, 3) := by decide +kernel
theorem dX0_lookForBlockedCells_43 : decode cX0_lookForBlockedCells 43 = .ok (.invokevirtual 103, 3) := by decide +kernel
theorem dX0_lookForBlockedCells_46 : decode cX0_lookForBlockedCells 46 = .ok (.ior, 1) := by decide +kernel
theorem dX0_lookForBlockedCells_47 : decode cX0_lookForBlockedCells 47 = .ok (.iastore, 1) := by decide +kernel
theorem dX0_lookForBlockedCells_48 : decode cX0_lookForBlockedCells 48 = .ok (.aload_n 0, 1) := by decide +kernel
theorem dX0_lookForBlockedCells_49 : decode cX0_lookForBlockedCells 49 = .ok (.getfield 12, 3) := by decide +kernel
theorem dX0_lookForBlockedCells_52 : decode cX0_lookForBlockedCells 52 = .ok (.invokevirtual 36, 3) := by decide +kernel
theorem dX0_lookForBlockedCells_55 : decode cX0_lookForBlockedCells 55 = .ok (.iinc 2 1, 3) := by decide +kernel
theorem dX0_lookForBlockedCells_58 : decode cX0_lookForBlockedCells 58 = .ok (.goto (-45), 3) := by decide +kernel
theorem dX0_lookForBlockedCells_61 : decode cX0_lookForBlockedCells 61 = .ok (.return_, 1) := by decide +kernel
theorem dX0_walkLength_0 : decode cX0_walkLength 0 = .ok (.iload_n 1, 1) := by decide +kernel
theorem dX0_walkLength_1 : decode cX0_walkLength 1 = .ok (.istore 4, 2) := by decide +kernel
theorem dX0_walkLength_3 : decode cX0_walkLength 3 = .ok (.iconst 0, 1) := by decide +kernel
theorem dX0_walkLength_4 : decode cX0_walkLength 4 = .ok (.istore 5, 2) := by decide +kernel
theorem dX0_walkLength_6 : decode cX0_walkLength 6 = .ok (.iload 5, 2) := by decide +kernel
theorem dX0_walkLength_8 : decode cX0_walkLength 8 = .ok (.bipush 80, 2) := by decide +kernel
theorem dX0_walkLength_10 : decode cX0_walkLength 10 = .ok (.if_icmp .ge 57, 3) := by decide +kernel
theorem dX0_walkLength_13 : decode cX0_walkLength 13 = .ok (.iload_n 3, 1) := by decide +kernel
theorem dX0_walkLength_14 : decode cX0_walkLength 14 = .ok (.iload 5, 2) := by decide +kernel
theorem dX0_walkLength_16 : decode cX0_walkLength 16 = .ok (.iadd, 1) := by decide +kernel
theorem dX0_walkLength_17 : decode cX0_walkLength 17 = .ok (.aload_n 0, 1) := by decide +kernel
theorem dX0_walkLength_18 : decode cX0_walkLength 18 = .ok (.getfield 18, 3) := by decide +kernel
theorem dX0_walkLength_21 : decode cX0_walkLength 21 = .ok (.arraylength, 1) := by decide +kernel
theorem dX0_walkLength_22 : decode cX0_walkLength 22 = .ok (.if_icmp .ge 45, 3) := by decide +kernel
theorem dX0_walkLength_25 : decode cX0_walkLength 25 = .ok (.iload 4, 2) := by decide +kernel
theorem dX0_walkLength_27 : decode cX0_walkLength 27 = .ok (.iload_n 2, 1) := by decide +kernel
theorem dX0_walkLength_28 : decode cX0_walkLength 28 = .ok (.if_icmp .ne 6, 3) := by decide +kernel
theorem dX0_walkLength_31 : decode cX0_walkLength 31 = .ok (.iload 5, 2) := by decide +kernel
theorem dX0_walkLength_33 : decode cX0_walkLength 33 = .ok (.ireturn, 1) := by decide +kernel
theorem dX0_walkLength_34 : decode cX0_walkLength 34 = .ok (.aload_n 0, 1) := by decide +kernel
theorem dX0_walkLength_35 : decode cX0_walkLength 35 = .ok (.getfield 18, 3) := by decide +kernel
theorem dX0_walkLength_38 : decode cX0_walkLength 38 = .ok (.iload_n 3, 1) := by decide +kernel
theorem dX0_walkLength_39 : decode cX0_walkLength 39 = .ok (.iload 5, 2) := by decide +kernel
theorem dX0_walkLength_41 : decode cX0_walkLength 41 = .ok (.iadd, 1) := by decide +kernel
theorem dX0_walkLength_42 : decode cX0_walkLength 42 = .ok (.iaload, 1) := by decide +kernel
theorem dX0_walkLength_43 : decode cX0_walkLength 43 = .ok (.iload 4, 2) := by decide +kernel
theorem dX0_walkLength_45 : decode cX0_walkLength 45 = .ok (.invokestatic 106, 3) := by decide +kernel
theorem dX0_walkLength_48 : decode cX0_walkLength 48 = .ok (.invokestatic 109, 3) := by decide +kernel
theorem dX0_walkLength_51 : decode cX0_walkLength 51 = .ok (.ifCond .ne 10, 3) := by decide +kernel
theorem dX0_walkLength_54 : decode cX0_walkLength 54 = .ok (.iload 4, 2) := by decide +kernel
theorem dX0_walkLength_56 : decode cX0_walkLength 56 = .ok (.invokestatic 106, 3) := by decide +kernel
theorem dX0_walkLength_59 : decode cX0_walkLength 59 = .ok (.istore 4, 2) := by decide +kernel
theorem dX0_walkLength_61 : decode cX0_walkLength 61 = .ok (.iinc 5 1, 3) := by decide +kernel
theorem dX0_walkLength_64 : decode cX0_walkLength 64 = .ok (.goto (-58), 3) := by decide +kernel
theorem dX0_walkLength_67 : decode cX0_walkLength 67 = .ok (.iload 4, 2) := by decide +kernel
theorem dX0_walkLength_69 : decode cX0_walkLength 69 = .ok (.iload_n 2, 1) := by decide +kernel
theorem dX0_walkLength_70 : decode cX0_walkLength 70 = .ok (.if_icmp .ne 8, 3) := by decide +kernel
theorem dX0_walkLength_73 : decode cX0_walkLength 73 = .ok (.bipush 80, 2) := by decide +kernel
theorem dX0_walkLength_75 : decode cX0_walkLength 75 = .ok (.goto 4, 3) := by decide +kernel
theorem dX0_walkLength_78 : decode cX0_walkLength 78 = .ok (.iconst (-1), 1) := by decide +kernel
theorem dX0_walkLength_79 : decode cX0_walkLength 79 = .ok (.ireturn, 1) := by decide +kernel
theorem dX0_bookCells_0 : decode cX0_bookCells 0 = .ok (.aload_n 0, 1) := by decide +kernel
theorem dX0_bookCells_1 : decode cX0_bookCells 1 = .ok (.getfield 12, 3) := by decide +kernel
theorem dX0_bookCells_4 : decode cX0_bookCells 4 = .ok (.aload_n 0, 1) := by decide +kernel
theorem dX0_bookCells_5 : decode cX0_bookCells 5 = .ok (.getfield 22, 3) := by decide +kernel
theorem dX0_bookCells_8 : decode cX0_bookCells 8 = .ok (.invokevirtual 25, 3) := by decide +kernel
theorem dX0_bookCells_11 : decode cX0_bookCells 11 = .ok (.iconst 0, 1) := by decide +kernel
theorem dX0_bookCells_12 : decode cX0_bookCells 12 = .ok (.istore_n 3, 1) := by decide +kernel
theorem dX0_bookCells_13 : decode cX0_bookCells 13 = .ok (.iload_n 3, 1) := by decide +kernel
theorem dX0_bookCells_14 : decode cX0_bookCells 14 = .ok (.aload_n 1, 1) := by decide +kernel
theorem dX0_bookCells_15 : decode cX0_bookCells 15 = .ok (.getfield 113, 3) := by decide +kernel
theorem dX0_bookCells_18 : decode cX0_bookCells 18 = .ok (.if_icmp .ge 31, 3) := by decide +kernel
theorem dX0_bookCells_21 : decode cX0_bookCells 21 = .ok (.aload_n 1, 1) := by decide +kernel
theorem dX0_bookCells_22 : decode cX0_bookCells 22 = .ok (.iload_n 3, 1) := by decide +kernel
theorem dX0_bookCells_23 : decode cX0_bookCells 23 = .ok (.aload_n 0, 1) := by decide +kernel
theorem dX0_bookCells_24 : decode cX0_bookCells 24 = .ok (.getfield 12, 3) := by decide +kernel
theorem dX0_bookCells_27 : decode cX0_bookCells 27 = .ok (.getfield 33, 3) := by decide +kernel
theorem dX0_bookCells_30 : decode cX0_bookCells 30 = .ok (.iload_n 2, 1) := by decide +kernel
theorem dX0_bookCells_31 : decode cX0_bookCells 31 = .ok (.iaload, 1) := by decide +kernel
theorem dX0_bookCells_32 : decode cX0_bookCells 32 = .ok (.i2l, 1) := by decide +kernel
theorem dX0_bookCells_33 : decode cX0_bookCells 33 = .ok (.invokevirtual 118, 3) := by decide +kernel
theorem dX0_bookCells_36 : decode cX0_bookCells 36 = .ok (.aload_n 0, 1) := by decide +kernel
theorem dX0_bookCells_37 : decode cX0_bookCells 37 = .ok (.getfield 12, 3) := by decide +kernel
theorem dX0_bookCells_40 : decode cX0_bookCells 40 = .ok (.invokevirtual 36, 3) := by decide +kernel
theorem dX0_bookCells_43 : decode cX0_bookCells 43 = .ok (.iinc 3 1, 3) := by decide +kernel
theorem dX0_bookCells_46 : decode cX0_bookCells 46 = .ok (.goto (-33), 3) := by decide +kernel
theorem dX0_bookCells_49 : decode cX0_bookCells 49 = .ok (.return_, 1) := by decide +kernel
theorem dX0_matchingPairs_0 : decode cX0_matchingPairs 0 = .ok (.iconst 0, 1) := by decide +kernel
theorem dX0_matchingPairs_1 : decode cX0_matchingPairs 1 = .ok (.istore_n 3, 1) := by decide +kernel
theorem dX0_matchingPairs_2 : decode cX0_matchingPairs 2 = .ok (.iconst 0, 1) := by decide +kernel
theorem dX0_matchingPairs_3 : decode cX0_matchingPairs 3 = .ok (.istore 4, 2) := by decide +kernel
theorem dX0_matchingPairs_5 : decode cX0_matchingPairs 5 = .ok (.iload 4, 2) := by decide +kernel
theorem dX0_matchingPairs_7 : decode cX0_matchingPairs 7 = .ok (.bipush 9, 2) := by decide +kernel
theorem dX0_matchingPairs_9 : decode cX0_matchingPairs 9 = .ok (.if_icmp .gt 71, 3) := by decide +kernel
theorem dX0_matchingPairs_12 : decode cX0_matchingPairs 12 = .ok (.bipush (-9), 2) := by decide +kernel
theorem dX0_matchingPairs_14 : decode cX0_matchingPairs 14 = .ok (.istore 5, 2) := by decide +kernel
theorem dX0_matchingPairs_16 : decode cX0_matchingPairs 16 = .ok (.iload 5, 2) := by decide +kernel
theorem dX0_matchingPairs_18 : decode cX0_matchingPairs 18 = .ok (.bipush 9, 2) := by decide +kernel
theorem dX0_matchingPairs_20 : decode cX0_matchingPairs 20 = .ok (.if_icmp .gt 54, 3) := by decide +kernel
theorem dX0_matchingPairs_23 : decode cX0_matchingPairs 23 = .ok (.aload_n 0, 1) := by decide +kernel
theorem dX0_matchingPairs_24 : decode cX0_matchingPairs 24 = .ok (.getfield 12, 3) := by decide +kernel
theorem dX0_matchingPairs_27 : decode cX0_matchingPairs 27 = .ok (.aload_n 0, 1) := by decide +kernel
theorem dX0_matchingPairs_28 : decode cX0_matchingPairs 28 = .ok (.getfield 22, 3) := by decide +kernel
theorem dX0_matchingPairs_31 : decode cX0_matchingPairs 31 = .ok (.invokevirtual 25, 3) := by decide +kernel
theorem dX0_matchingPairs_34 : decode cX0_matchingPairs 34 = .ok (.aload_n 0, 1) := by decide +kernel
theorem dX0_matchingPairs_35 : decode cX0_matchingPairs 35 = .ok (.getfield 12, 3) := by decide +kernel
theorem dX0_matchingPairs_38 : decode cX0_matchingPairs 38 = .ok (.getfield 66, 3) := by decide +kernel
theorem dX0_matchingPairs_41 : decode cX0_matchingPairs 41 = .ok (.iload_n 2, 1) := by decide +kernel
theorem dX0_matchingPairs_42 : decode cX0_matchingPairs 42 = .ok (.iload 4, 2) := by decide +kernel
theorem dX0_matchingPairs_44 : decode cX0_matchingPairs 44 = .ok (.iastore, 1) := by decide +kernel
theorem dX0_matchingPairs_45 : decode cX0_matchingPairs 45 = .ok (.aload_n 0, 1) := by decide +kernel
theorem dX0_matchingPairs_46 : decode cX0_matchingPairs 46 = .ok (.getfield 12, 3) := by decide +kernel
theorem dX0_matchingPairs_49 : decode cX0_matchingPairs 49 = .ok (.getfield 73, 3) := by decide +kernel
theorem dX0_matchingPairs_52 : decode cX0_matchingPairs 52 = .ok (.iconst 0, 1) := by decide +kernel
theorem dX0_matchingPairs_53 : decode cX0_matchingPairs 53 = .ok (.iload 5, 2) := by decide +kernel
theorem dX0_matchingPairs_55 : decode cX0_matchingPairs 55 = .ok (.iastore, 1) := by decide +kernel
theorem dX0_matchingPairs_56 : decode cX0_matchingPairs 56 = .ok (.aload_n 0, 1) := by decide +kernel
theorem dX0_matchingPairs_57 : decode cX0_matchingPairs 57 = .ok (.aload_n 1, 1) := by decide +kernel
theorem dX0_matchingPairs_58 : decode cX0_matchingPairs 58 = .ok (.iload_n 2, 1) := by decide +kernel
theorem dX0_matchingPairs_59 : decode cX0_matchingPairs 59 = .ok (.invokevirtual 122, 3) := by decide +kernel
theorem dX0_matchingPairs_62 : decode cX0_matchingPairs 62 = .ok (.ifCond .eq 6, 3) := by decide +kernel
theorem dX0_matchingPairs_65 : decode cX0_matchingPairs 65 = .ok (.iinc 3 1, 3) := by decide +kernel
theorem dX0_matchingPairs_68 : decode cX0_matchingPairs 68 = .ok (.iinc 5 1, 3) := by decide +kernel
theorem dX0_matchingPairs_71 : decode cX0_matchingPairs 71 = .ok (.goto (-55), 3) := by decide +kernel
theorem dX0_matchingPairs_74 : decode cX0_matchingPairs 74 = .ok (.iinc 4 1, 3) := by decide +kernel
theorem dX0_matchingPairs_77 : decode cX0_matchingPairs 77 = .ok (.goto (-72), 3) := by decide +kernel
theorem dX0_matchingPairs_80 : decode cX0_matchingPairs 80 = .ok (.iload_n 3, 1) := by decide +kernel
theorem dX0_matchingPairs_81 : decode cX0_matchingPairs 81 = .ok (.ireturn, 1) := by decide +kernel
theorem dX0_trialGoesAs_0 : decode cX0_trialGoesAs 0 = .ok (.iconst 0, 1) := by decide +kernel
theorem dX0_trialGoesAs_1 : decode cX0_trialGoesAs 1 = .ok (.istore_n 3, 1) := by decide +kernel
theorem dX0_trialGoesAs_2 : decode cX0_trialGoesAs 2 = .ok (.iload_n 3, 1) := by decide +kernel
theorem dX0_trialGoesAs_3 : decode cX0_trialGoesAs 3 = .ok (.aload_n 1, 1) := by decide +kernel
theorem dX0_trialGoesAs_4 : decode cX0_trialGoesAs 4 = .ok (.getfield 113, 3) := by decide +kernel
theorem dX0_trialGoesAs_7 : decode cX0_trialGoesAs 7 = .ok (.if_icmp .ge 38, 3) := by decide +kernel
theorem dX0_trialGoesAs_10 : decode cX0_trialGoesAs 10 = .ok (.aload_n 1, 1) := by decide +kernel
theorem dX0_trialGoesAs_11 : decode cX0_trialGoesAs 11 = .ok (.getfield 126, 3) := by decide +kernel
theorem dX0_trialGoesAs_14 : decode cX0_trialGoesAs 14 = .ok (.iload_n 3, 1) := by decide +kernel
theorem dX0_trialGoesAs_15 : decode cX0_trialGoesAs 15 = .ok (.laload, 1) := by decide +kernel
theorem dX0_trialGoesAs_16 : decode cX0_trialGoesAs 16 = .ok (.aload_n 0, 1) := by decide +kernel
theorem dX0_trialGoesAs_17 : decode cX0_trialGoesAs 17 = .ok (.getfield 12, 3) := by decide +kernel
theorem dX0_trialGoesAs_20 : decode cX0_trialGoesAs 20 = .ok (.getfield 33, 3) := by decide +kernel
theorem dX0_trialGoesAs_23 : decode cX0_trialGoesAs 23 = .ok (.iload_n 2, 1) := by decide +kernel
theorem dX0_trialGoesAs_24 : decode cX0_trialGoesAs 24 = .ok (.iaload, 1) := by decide +kernel
theorem dX0_trialGoesAs_25 : decode cX0_trialGoesAs 25 = .ok (.i2l, 1) := by decide +kernel
theorem dX0_trialGoesAs_26 : decode cX0_trialGoesAs 26 = .ok (.lcmp, 1) := by decide +kernel
theorem dX0_trialGoesAs_27 : decode cX0_trialGoesAs 27 = .ok (.ifCond .eq 5, 3) := by decide +kernel
theorem dX0_trialGoesAs_30 : decode cX0_trialGoesAs 30 = .ok (.iconst 0, 1) := by decide +kernel
theorem dX0_trialGoesAs_31 : decode cX0_trialGoesAs 31 = .ok (.ireturn, 1) := by decide +kernel
theorem dX0_trialGoesAs_32 : decode cX0_trialGoesAs 32 = .ok (.aload_n 0, 1) := by decide +kernel
theorem dX0_trialGoesAs_33 : decode cX0_trialGoesAs 33 = .ok (.getfield 12, 3) := by decide +kernel
theorem dX0_trialGoesAs_36 : decode cX0_trialGoesAs 36 = .ok (.invokevirtual 36, 3) := by decide +kernel
theorem dX0_trialGoesAs_39 : decode cX0_trialGoesAs 39 = .ok (.iinc 3 1, 3) := by decide +kernel
theorem dX0_trialGoesAs_42 : decode cX0_trialGoesAs 42 = .ok (.goto (-40), 3) := by decide +kernel
theorem dX0_trialGoesAs_45 : decode cX0_trialGoesAs 45 = .ok (.iconst 1, 1) := by decide +kernel
theorem dX0_trialGoesAs_46 : decode cX0_trialGoesAs 46 = .ok (.ireturn, 1) := by decide +kernel
theorem dX1_init_0 : decode cX1_init 0 = .ok (.aload_n 0, 1) := by decide +kernel
theorem dX1_init_1 : decode cX1_init 1 = .ok (.invokespecial 3, 3) := by decide +kernel
theorem dX1_init_4 : decode cX1_init 4 = .ok (.aload_n 0, 1) := by decide +kernel
theorem dX1_init_5 : decode cX1_init 5 = .ok (.bipush 24, 2) := by decide +kernel
theorem dX1_init_7 : decode cX1_init 7 = .ok (.newarray .int, 2) := by decide +kernel
theorem dX1_init_9 : decode cX1_init 9 = .ok (.putfield 9, 3) := by decide +kernel
theorem dX1_init_12 : decode cX1_init 12 = .ok (.aload_n 0, 1) := by decide +kernel
theorem dX1_init_13 : decode cX1_init 13 = .ok (.bipush 24, 2) := by decide +kernel
theorem dX1_init_15 : decode cX1_init 15 = .ok (.newarray .int, 2) := by decide +kernel
theorem dX1_init_17 : decode cX1_init 17 = .ok (.putfield 15, 3) := by decide +kernel
theorem dX1_init_20 : decode cX1_init 20 = .ok (.aload_n 0, 1) := by decide +kernel
theorem dX1_init_21 : decode cX1_init 21 = .ok (.bipush 6, 2) := by decide +kernel
theorem dX1_init_23 : decode cX1_init 23 = .ok (.newarray .int, 2) := by decide +kernel
theorem dX1_init_25 : decode cX1_init 25 = .ok (.putfield 18, 3) := by decide +kernel
theorem dX1_init_28 : decode cX1_init 28 = .ok (.aload_n 0, 1) := by decide +kernel
theorem dX1_init_29 : decode cX1_init 29 = .ok (.iconst 4, 1) := by decide +kernel
theorem dX1_init_30 : decode cX1_init 30 = .ok (.newarray .int, 2) := by decide +kernel
theorem dX1_init_32 : decode cX1_init 32 = .ok (.putfield 21, 3) := by decide +kernel
theorem dX1_init_35 : decode cX1_init 35 = .ok (.aload_n 0, 1) := by decide +kernel
theorem dX1_init_36 : decode cX1_init 36 = .ok (.bipush 8, 2) := by decide +kernel
theorem dX1_init_38 : decode cX1_init 38 = .ok (.newarray .int, 2) := by decide +kernel
theorem dX1_init_40 : decode cX1_init 40 = .ok (.putfield 24, 3) := by decide +kernel
theorem dX1_init_43 : decode cX1_init 43 = .ok (.aload_n 0, 1) := by decide +kernel
theorem dX1_init_44 : decode cX1_init 44 = .ok (.bipush 8, 2) := by decide +kernel
theorem dX1_init_46 : decode cX1_init 46 = .ok (.newarray .int, 2) := by decide +kernel
theorem dX1_init_48 : decode cX1_init 48 = .ok (.putfield 27, 3) := by decide +kernel
theorem dX1_init_51 : decode cX1_init 51 = .ok (.aload_n 0, 1) := by decide +kernel
theorem dX1_init_52 : decode cX1_init 52 = .ok (.bipush 8, 2) := by decide +kernel
theorem dX1_init_54 : decode cX1_init 54 = .ok (.newarray .int, 2) := by decide +kernel
theorem dX1_init_56 : decode cX1_init 56 = .ok (.putfield 30, 3) := by decide +kernel
theorem dX1_init_59 : decode cX1_init 59 = .ok (.aload_n 0, 1) := by decide +kernel
theorem dX1_init_60 : decode cX1_init 60 = .ok (.bipush 8, 2) := by decide +kernel
theorem dX1_init_62 : decode cX1_init 62 = .ok (.newarray .int, 2) := by decide +kernel
theorem dX1_init_64 : decode cX1_init 64 = .ok (.putfield 33, 3) := by decide +kernel
theorem dX1_init_67 : decode cX1_init 67 = .ok (.aload_n 0, 1) := by decide +kernel
theorem dX1_init_68 : decode cX1_init 68 = .ok (.bipush 8, 2) := by decide +kernel
theorem dX1_init_70 : decode cX1_init 70 = .ok (.newarray .int, 2) := by decide +kernel
theorem dX1_init_72 : decode cX1_init 72 = .ok (.putfield 36, 3) := by decide +kernel
theorem dX1_init_75 : decode cX1_init 75 = .ok (.aload_n 0, 1) := by decide +kernel
theorem dX1_init_76 : decode cX1_init 76 = .ok (.bipush 8, 2) := by decide +kernel
theorem dX1_init_78 : decode cX1_init 78 = .ok (.newarray .int, 2) := by decide +kernel
theorem dX1_init_80 : decode cX1_init 80 = .ok (.putfield 39, 3) := by decide +kernel
theorem dX1_init_83 : decode cX1_init 83 = .ok (.aload_n 0, 1) := by decide +kernel
theorem dX1_init_84 : decode cX1_init 84 = .ok (.bipush 8, 2) := by decide +kernel
theorem dX1_init_86 : decode cX1_init 86 = .ok (.newarray .int, 2) := by decide +kernel
theorem dX1_init_88 : decode cX1_init 88 = .ok (.putfield 42, 3) := by decide +kernel
theorem dX1_init_91 : decode cX1_init 91 = .ok (.return_, 1) := by decide +kernel
theorem dX1_becomes_0 : decode cX1_becomes 0 = .ok (.aload_n 0, 1) := by decide +kernel
theorem dX1_becomes_1 : decode cX1_becomes 1 = .ok (.aload_n 1, 1) := by decide +kernel
theorem dX1_becomes_2 : decode cX1_becomes 2 = .ok (.getfield 45, 3) := by decide +kernel
theorem dX1_becomes_5 : decode cX1_becomes 5 = .ok (.putfield 45, 3) := by decide +kernel
theorem dX1_becomes_8 : decode cX1_becomes 8 = .ok (.aload_n 0, 1) := by decide +kernel
theorem dX1_becomes_9 : decode cX1_becomes 9 = .ok (.aload_n 1, 1) := by decide +kernel
theorem dX1_becomes_10 : decode cX1_becomes 10 = .ok (.getfield 49, 3) := by decide +kernel
theorem dX1_becomes_13 : decode cX1_becomes 13 = .ok (.putfield 49, 3) := by decide +kernel
theorem dX1_becomes_16 : decode cX1_becomes 16 = .ok (.aload_n 0, 1) := by decide +kernel
theorem dX1_becomes_17 : decode cX1_becomes 17 = .ok (.aload_n 1, 1) := by decide +kernel
theorem dX1_becomes_18 : decode cX1_becomes 18 = .ok (.getfield 52, 3) := by decide +kernel
theorem dX1_becomes_21 : decode cX1_becomes 21 = .ok (.putfield 52, 3) := by decide +kernel
theorem dX1_becomes_24 : decode cX1_becomes 24 = .ok (.aload_n 1, 1) := by decide +kernel
theorem dX1_becomes_25 : decode cX1_becomes 25 = .ok (.getfield 9, 3) := by decide +kernel
theorem dX1_becomes_28 : decode cX1_becomes 28 = .ok (.iconst 0, 1) := by decide +kernel
theorem dX1_becomes_29 : decode cX1_becomes 29 = .ok (.aload_n 0, 1) := by decide +kernel
theorem dX1_becomes_30 : decode cX1_becomes 30 = .ok (.getfield 9, 3) := by decide +kernel
theorem dX1_becomes_33 : decode cX1_becomes 33 = .ok (.iconst 0, 1) := by decide +kernel
theorem dX1_becomes_34 : decode cX1_becomes 34 = .ok (.bipush 24, 2) := by decide +kernel
theorem dX1_becomes_36 : decode cX1_becomes 36 = .ok (.invokestatic 55, 3) := by decide +kernel
theorem dX1_becomes_39 : decode cX1_becomes 39 = .ok (.aload_n 1, 1) := by decide +kernel
theorem dX1_becomes_40 : decode cX1_becomes 40 = .ok (.getfield 15, 3) := by decide +kernel
theorem dX1_becomes_43 : decode cX1_becomes 43 = .ok (.iconst 0, 1) := by decide +kernel
theorem dX1_becomes_44 : decode cX1_becomes 44 = .ok (.aload_n 0, 1) := by decide +kernel
theorem dX1_becomes_45 : decode cX1_becomes 45 = .ok (.getfield 15, 3) := by decide +kernel
theorem dX1_becomes_48 : decode cX1_becomes 48 = .ok (.iconst 0, 1) := by decide +kernel
theorem dX1_becomes_49 : decode cX1_becomes 49 = .ok (.bipush 24, 2) := by decide +kernel
theorem dX1_becomes_51 : decode cX1_becomes 51 = .ok (.invokestatic 55, 3) := by decide +kernel
theorem dX1_becomes_54 : decode cX1_becomes 54 = .ok (.aload_n 1, 1) := by decide +kernel
theorem dX1_becomes_55 : decode cX1_becomes 55 = .ok (.getfield 18, 3) := by decide +kernel
theorem dX1_becomes_58 : decode cX1_becomes 58 = .ok (.iconst 0, 1) := by decide +kernel
theorem dX1_becomes_59 : decode cX1_becomes 59 = .ok (.aload_n 0, 1) := by decide +kernel
theorem dX1_becomes_60 : decode cX1_becomes 60 = .ok (.getfield 18, 3) := by decide +kernel
theorem dX1_becomes_63 : decode cX1_becomes 63 = .ok (.iconst 0, 1) := by decide +kernel
theorem dX1_becomes_64 : decode cX1_becomes 64 = .ok (.bipush 6, 2) := by decide +kernel
theorem dX1_becomes_66 : decode cX1_becomes 66 = .ok (.invokestatic 55, 3) := by decide +kernel
theorem dX1_becomes_69 : decode cX1_becomes 69 = .ok (.aload_n 1, 1) := by decide +kernel
theorem dX1_becomes_70 : decode cX1_becomes 70 = .ok (.getfield 21, 3) := by decide +kernel
theorem dX1_becomes_73 : decode cX1_becomes 73 = .ok (.iconst 0, 1) := by decide +kernel
theorem dX1_becomes_74 : decode cX1_becomes 74 = .ok (.aload_n 0, 1) := by decide +kernel
theorem dX1_becomes_75 : decode cX1_becomes 75 = .ok (.getfield 21, 3) := by decide +kernel
theorem dX1_becomes_78 : decode cX1_becomes 78 = .ok (.iconst 0, 1) := by decide +kernel
theorem dX1_becomes_79 : decode cX1_becomes 79 = .ok (.iconst 4, 1) := by decide +kernel
theorem dX1_becomes_80 : decode cX1_becomes 80 = .ok (.invokestatic 55, 3) := by decide +kernel
theorem dX1_becomes_83 : decode cX1_becomes 83 = .ok (.aload_n 1, 1) := by decide +kernel
theorem dX1_becomes_84 : decode cX1_becomes 84 = .ok (.getfield 24, 3) := by decide +kernel
theorem dX1_becomes_87 : decode cX1_becomes 87 = .ok (.iconst 0, 1) := by decide +kernel
theorem dX1_becomes_88 : decode cX1_becomes 88 = .ok (.aload_n 0, 1) := by decide +kernel
theorem dX1_becomes_89 : decode cX1_becomes 89 = .ok (.getfield 24, 3) := by decide +kernel
theorem dX1_becomes_92 : decode cX1_becomes 92 = .ok (.iconst 0, 1) := by decide +kernel
theorem dX1_becomes_93 : decode cX1_becomes 93 = .ok (.bipush 8, 2) := by decide +kernel
theorem dX1_becomes_95 : decode cX1_becomes 95 = .ok (.invokestatic 55, 3) := by decide +kernel
theorem dX1_becomes_98 : decode cX1_becomes 98 = .ok (.aload_n 1, 1) := by decide +kernel
theorem dX1_becomes_99 : decode cX1_becomes 99 = .ok (.getfield 27, 3) := by decide +kernel
theorem dX1_becomes_102 : decode cX1_becomes 102 = .ok (.iconst 0, 1) := by decide +kernel
theorem dX1_becomes_103 : decode cX1_becomes 103 = .ok (.aload_n 0, 1) := by decide +kernel
theorem dX1_becomes_104 : decode cX1_becomes 104 = .ok (.getfield 27, 3) := by decide +kernel
theorem dX1_becomes_107 : decode cX1_becomes 107 = .ok (.iconst 0, 1) := by decide +kernel
theorem dX1_becomes_108 : decode cX1_becomes 108 = .ok (.bipush 8, 2) := by decide +kernel
theorem dX1_becomes_110 : decode cX1_becomes 110 = .ok (.invokestatic 55, 3) := by decide +kernel
theorem dX1_becomes_113 : decode cX1_becomes 113 = .ok (.aload_n 1, 1) := by decide +kernel
theorem dX1_becomes_114 : decode cX1_becomes 114 = .ok (.getfield 30, 3) := by decide +kernel
theorem dX1_becomes_117 : decode cX1_becomes 117 = .ok (.iconst 0, 1) := by decide +kernel
theorem dX1_becomes_118 : decode cX1_becomes 118 = .ok (.aload_n 0, 1) := by decide +kernel
theorem dX1_becomes_119 : decode cX1_becomes 119 = .ok (.getfield 30, 3) := by decide +kernel
theorem dX1_becomes_122 : decode cX1_becomes 122 = .ok (.iconst 0, 1) := by decide +kernel
theorem dX1_becomes_123 : decode cX1_becomes 123 = .ok (.bipush 8, 2) := by decide +kernel
theorem dX1_becomes_125 : decode cX1_becomes 125 = .ok (.invokestatic 55, 3) := by decide +kernel
theorem dX1_becomes_128 : decode cX1_becomes 128 = .ok (.aload_n 1, 1) := by decide +kernel
theorem dX1_becomes_129 : decode cX1_becomes 129 = .ok (.getfield 33, 3) := by decide +kernel
theorem dX1_becomes_132 : decode cX1_becomes 132 = .ok (.iconst 0, 1) := by decide +kernel
theorem dX1_becomes_133 : decode cX1_becomes 133 = .ok (.aload_n 0, 1) := by decide +kernel
theorem dX1_becomes_134 : decode cX1_becomes 134 = .ok (.getfield 33, 3) := by decide +kernel
theorem dX1_becomes_137 : decode cX1_becomes 137 = .ok (.iconst 0, 1) := by decide +kernel
theorem dX1_becomes_138 : decode cX1_becomes 138 = .ok (.bipush 8, 2) := by decide +kernel
theorem dX1_becomes_140 : decode cX1_becomes 140 = .ok (.invokestatic 55, 3) := by decide +kernel
theorem dX1_becomes_143 : decode cX1_becomes 143 = .ok (.aload_n 1, 1) := by decide +kernel
theorem dX1_becomes_144 : decode cX1_becomes 144 = .ok (.getfield 36, 3) := by decide +kernel
theorem dX1_becomes_147 : decode cX1_becomes 147 = .ok (.iconst 0, 1) := by decide +kernel
theorem dX1_becomes_148 : decode cX1_becomes 148 = .ok (.aload_n 0, 1) := by decide +kernel
theorem dX1_becomes_149 : decode cX1_becomes 149 = .ok (.getfield 36, 3) := by decide +kernel
theorem dX1_becomes_152 : decode cX1_becomes 152 = .ok (.iconst 0, 1) := by decide +kernel
theorem dX1_becomes_153 : decode cX1_becomes 153 = .ok (.bipush 8, 2) := by decide +kernel
theorem dX1_becomes_155 : decode cX1_becomes 155 = .ok (.invokestatic 55, 3) := by decide +kernel
theorem dX1_becomes_158 : decode cX1_becomes 158 = .ok (.return_, 1) := by decide +kernel
theorem dX1_putPass_0 : decode cX1_putPass 0 = .ok (.aload_n 0, 1) := by decide +kernel
theorem dX1_putPass_1 : decode cX1_putPass 1 = .ok (.getfield 9, 3) := by decide +kernel
theorem dX1_putPass_4 : decode cX1_putPass 4 = .ok (.iload_n 1, 1) := by decide +kernel
theorem dX1_putPass_5 : decode cX1_putPass 5 = .ok (.iload_n 2, 1) := by decide +kernel
theorem dX1_putPass_6 : decode cX1_putPass 6 = .ok (.iastore, 1) := by decide +kernel
theorem dX1_putPass_7 : decode cX1_putPass 7 = .ok (.aload_n 0, 1) := by decide +kernel
theorem dX1_putPass_8 : decode cX1_putPass 8 = .ok (.getfield 15, 3) := by decide +kernel
theorem dX1_putPass_11 : decode cX1_putPass 11 = .ok (.iload_n 1, 1) := by decide +kernel
theorem dX1_putPass_12 : decode cX1_putPass 12 = .ok (.iload_n 2, 1) := by decide +kernel
theorem dX1_putPass_13 : decode cX1_putPass 13 = .ok (.ifCond .ne 7, 3) := by decide +kernel
theorem dX1_putPass_16 : decode cX1_putPass 16 = .ok (.iconst 0, 1) := by decide +kernel
theorem dX1_putPass_17 : decode cX1_putPass 17 = .ok (.goto 4, 3) := by decide +kernel
theorem dX1_putPass_20 : decode cX1_putPass 20 = .ok (.iload_n 3, 1) := by decide +kernel
theorem dX1_putPass_21 : decode cX1_putPass 21 = .ok (.iastore, 1) := by decide +kernel
theorem dX1_putPass_22 : decode cX1_putPass 22 = .ok (.return_, 1) := by decide +kernel
theorem dX1_isPass_0 : decode cX1_isPass 0 = .ok (.aload_n 0, 1) := by decide +kernel
theorem dX1_isPass_1 : decode cX1_isPass 1 = .ok (.getfield 9, 3) := by decide +kernel
theorem dX1_isPass_4 : decode cX1_isPass 4 = .ok (.iload_n 1, 1) := by decide +kernel
theorem dX1_isPass_5 : decode cX1_isPass 5 = .ok (.iaload, 1) := by decide +kernel
theorem dX1_isPass_6 : decode cX1_isPass 6 = .ok (.ifCond .le 7, 3) := by decide +kernel
theorem dX1_isPass_9 : decode cX1_isPass 9 = .ok (.iconst 1, 1) := by decide +kernel
theorem dX1_isPass_10 : decode cX1_isPass 10 = .ok (.goto 4, 3) := by decide +kernel
theorem dX1_isPass_13 : decode cX1_isPass 13 = .ok (.iconst 0, 1) := by decide +kernel
theorem dX1_isPass_14 : decode cX1_isPass 14 = .ok (.ireturn, 1) := by decide +kernel
theorem dX1_isOpen_0 : decode cX1_isOpen 0 = .ok (.aload_n 0, 1) := by decide +kernel
theorem dX1_isOpen_1 : decode cX1_isOpen 1 = .ok (.getfield 9, 3) := by decide +kernel
theorem dX1_isOpen_4 : decode cX1_isOpen 4 = .ok (.iload_n 1, 1) := by decide +kernel
theorem dX1_isOpen_5 : decode cX1_isOpen 5 = .ok (.iaload, 1) := by decide +kernel
theorem dX1_isOpen_6 : decode cX1_isOpen 6 = .ok (.istore_n 2, 1) := by decide +kernel
theorem dX1_isOpen_7 : decode cX1_isOpen 7 = .ok (.iload_n 2, 1) := by decide +kernel
theorem dX1_isOpen_8 : decode cX1_isOpen 8 = .ok (.ifCond .le 18, 3) := by decide +kernel
theorem dX1_isOpen_11 : decode cX1_isOpen 11 = .ok (.aload_n 0, 1) := by decide +kernel
theorem dX1_isOpen_12 : decode cX1_isOpen 12 = .ok (.getfield 45, 3) := by decide +kernel
theorem dX1_isOpen_15 : decode cX1_isOpen 15 = .ok (.iload_n 2, 1) := by decide +kernel
theorem dX1_isOpen_16 : decode cX1_isOpen 16 = .ok (.irem, 1) := by decide +kernel
theorem dX1_isOpen_17 : decode cX1_isOpen 17 = .ok (.aload_n 0, 1) := by decide +kernel
theorem dX1_isOpen_18 : decode cX1_isOpen 18 = .ok (.getfield 15, 3) := by decide +kernel
theorem dX1_isOpen_21 : decode cX1_isOpen 21 = .ok (.iload_n 1, 1) := by decide +kernel
theorem dX1_isOpen_22 : decode cX1_isOpen 22 = .ok (.iaload, 1) := by decide +kernel
theorem dX1_isOpen_23 : decode cX1_isOpen 23 = .ok (.if_icmp .ge 7, 3) := by decide +kernel
theorem dX1_isOpen_26 : decode cX1_isOpen 26 = .ok (.iconst 1, 1) := by decide +kernel
theorem dX1_isOpen_27 : decode cX1_isOpen 27 = .ok (.goto 4, 3) := by decide +kernel
theorem dX1_isOpen_30 : decode cX1_isOpen 30 = .ok (.iconst 0, 1) := by decide +kernel
theorem dX1_isOpen_31 : decode cX1_isOpen 31 = .ok (.ireturn, 1) := by decide +kernel
theorem dX1_isSummer_0 : decode cX1_isSummer 0 = .ok (.aload_n 0, 1) := by decide +kernel
theorem dX1_isSummer_1 : decode cX1_isSummer 1 = .ok (.getfield 45, 3) := by decide +kernel
theorem dX1_isSummer_4 : decode cX1_isSummer 4 = .ok (.iconst 4, 1) := by decide +kernel
theorem dX1_isSummer_5 : decode cX1_isSummer 5 = .ok (.irem, 1) := by decide +kernel
theorem dX1_isSummer_6 : decode cX1_isSummer 6 = .ok (.iconst 2, 1) := by decide +kernel
theorem dX1_isSummer_7 : decode cX1_isSummer 7 = .ok (.if_icmp .ge 7, 3) := by decide +kernel
theorem dX1_isSummer_10 : decode cX1_isSummer 10 = .ok (.iconst 1, 1) := by decide +kernel
theorem dX1_isSummer_11 : decode cX1_isSummer 11 = .ok (.goto 4, 3) := by decide +kernel
theorem dX1_isSummer_14 : decode cX1_isSummer 14 = .ok (.iconst 0, 1) := by decide +kernel
theorem dX1_isSummer_15 : decode cX1_isSummer 15 = .ok (.ireturn, 1) := by decide +kernel
theorem dX1_addVillage_0 : decode cX1_addVillage 0 = .ok (.aload_n 0, 1) := by decide +kernel
theorem dX1_addVillage_1 : decode cX1_addVillage 1 = .ok (.getfield 18, 3) := by decide +kernel
theorem dX1_addVillage_4 : decode cX1_addVillage 4 = .ok (.aload_n 0, 1) := by decide +kernel
theorem dX1_addVillage_5 : decode cX1_addVillage 5 = .ok (.getfield 52, 3) := by decide +kernel
theorem dX1_addVillage_8 : decode cX1_addVillage 8 = .ok (.iload_n 1, 1) := by decide +kernel
theorem dX1_addVillage_9 : decode cX1_addVillage 9 = .ok (.iastore, 1) := by decide +kernel
theorem dX1_addVillage_10 : decode cX1_addVillage 10 = .ok (.aload_n 0, 1) := by decide +kernel
theorem dX1_addVillage_11 : decode cX1_addVillage 11 = .ok (.dup, 1) := by decide +kernel
theorem dX1_addVillage_12 : decode cX1_addVillage 12 = .ok (.getfield 52, 3) := by decide +kernel
theorem dX1_addVillage_15 : decode cX1_addVillage 15 = .ok (.iconst 1, 1) := by decide +kernel
theorem dX1_addVillage_16 : decode cX1_addVillage 16 = .ok (.iadd, 1) := by decide +kernel
theorem dX1_addVillage_17 : decode cX1_addVillage 17 = .ok (.putfield 52, 3) := by decide +kernel
theorem dX1_addVillage_20 : decode cX1_addVillage 20 = .ok (.aload_n 0, 1) := by decide +kernel
theorem dX1_addVillage_21 : decode cX1_addVillage 21 = .ok (.getfield 52, 3) := by decide +kernel
theorem dX1_addVillage_24 : decode cX1_addVillage 24 = .ok (.iconst 1, 1) := by decide +kernel
theorem dX1_addVillage_25 : decode cX1_addVillage 25 = .ok (.isub, 1) := by decide +kernel
theorem dX1_addVillage_26 : decode cX1_addVillage 26 = .ok (.ireturn, 1) := by decide +kernel
theorem dX1_isLit_0 : decode cX1_isLit 0 = .ok (.aload_n 0, 1) := by decide +kernel
theorem dX1_isLit_1 : decode cX1_isLit 1 = .ok (.getfield 18, 3) := by decide +kernel
theorem dX1_isLit_4 : decode cX1_isLit 4 = .ok (.iload_n 1, 1) := by decide +kernel
theorem dX1_isLit_5 : decode cX1_isLit 5 = .ok (.iaload, 1) := by decide +kernel
theorem dX1_isLit_6 : decode cX1_isLit 6 = .ok (.istore_n 2, 1) := by decide +kernel
theorem dX1_isLit_7 : decode cX1_isLit 7 = .ok (.aload_n 0, 1) := by decide +kernel
theorem dX1_isLit_8 : decode cX1_isLit 8 = .ok (.iload_n 2, 1) := by decide +kernel
theorem dX1_isLit_9 : decode cX1_isLit 9 = .ok (.invokevirtual 61, 3) := by decide +kernel
theorem dX1_isLit_12 : decode cX1_isLit 12 = .ok (.ifCond .ge 18, 3) := by decide +kernel
theorem dX1_isLit_15 : decode cX1_isLit 15 = .ok (.aload_n 0, 1) := by decide +kernel
theorem dX1_isLit_16 : decode cX1_isLit 16 = .ok (.iload_n 2, 1) := by decide +kernel
theorem dX1_isLit_17 : decode cX1_isLit 17 = .ok (.invokestatic 65, 3) := by decide +kernel
theorem dX1_isLit_20 : decode cX1_isLit 20 = .ok (.invokevirtual 61, 3) := by decide +kernel
theorem dX1_isLit_23 : decode cX1_isLit 23 = .ok (.ifCond .ge 7, 3) := by decide +kernel
theorem dX1_isLit_26 : decode cX1_isLit 26 = .ok (.iconst 1, 1) := by decide +kernel
theorem dX1_isLit_27 : decode cX1_isLit 27 = .ok (.goto 4, 3) := by decide +kernel
theorem dX1_isLit_30 : decode cX1_isLit 30 = .ok (.iconst 0, 1) := by decide +kernel
theorem dX1_isLit_31 : decode cX1_isLit 31 = .ok (.ireturn, 1) := by decide +kernel
theorem dX1_addRange_0 : decode cX1_addRange 0 = .ok (.aload_n 0, 1) := by decide +kernel
theorem dX1_addRange_1 : decode cX1_addRange 1 = .ok (.getfield 49, 3) := by decide +kernel
theorem dX1_addRange_4 : decode cX1_addRange 4 = .ok (.istore 4, 2) := by decide +kernel
theorem dX1_addRange_6 : decode cX1_addRange 6 = .ok (.aload_n 0, 1) := by decide +kernel
theorem dX1_addRange_7 : decode cX1_addRange 7 = .ok (.getfield 24, 3) := by decide +kernel
theorem dX1_addRange_10 : decode cX1_addRange 10 = .ok (.iload 4, 2) := by decide +kernel
theorem dX1_addRange_12 : decode cX1_addRange 12 = .ok (.iload_n 1, 1) := by decide +kernel
theorem dX1_addRange_13 : decode cX1_addRange 13 = .ok (.iastore, 1) := by decide +kernel
theorem dX1_addRange_14 : decode cX1_addRange 14 = .ok (.aload_n 0, 1) := by decide +kernel
theorem dX1_addRange_15 : decode cX1_addRange 15 = .ok (.getfield 27, 3) := by decide +kernel
theorem dX1_addRange_18 : decode cX1_addRange 18 = .ok (.iload 4, 2) := by decide +kernel
theorem dX1_addRange_20 : decode cX1_addRange 20 = .ok (.iload_n 2, 1) := by decide +kernel
theorem dX1_addRange_21 : decode cX1_addRange 21 = .ok (.iastore, 1) := by decide +kernel
theorem dX1_addRange_22 : decode cX1_addRange 22 = .ok (.aload_n 0, 1) := by decide +kernel
theorem dX1_addRange_23 : decode cX1_addRange 23 = .ok (.getfield 30, 3) := by decide +kernel
theorem dX1_addRange_26 : decode cX1_addRange 26 = .ok (.iload 4, 2) := by decide +kernel
theorem dX1_addRange_28 : decode cX1_addRange 28 = .ok (.iload_n 3, 1) := by decide +kernel
theorem dX1_addRange_29 : decode cX1_addRange 29 = .ok (.iastore, 1) := by decide +kernel
theorem dX1_addRange_30 : decode cX1_addRange 30 = .ok (.aload_n 0, 1) := by decide +kernel
theorem dX1_addRange_31 : decode cX1_addRange 31 = .ok (.getfield 33, 3) := by decide +kernel
theorem dX1_addRange_34 : decode cX1_addRange 34 = .ok (.iload 4, 2) := by decide +kernel
theorem dX1_addRange_36 : decode cX1_addRange 36 = .ok (.iconst 0, 1) := by decide +kernel
theorem dX1_addRange_37 : decode cX1_addRange 37 = .ok (.iastore, 1) := by decide +kernel
theorem dX1_addRange_38 : decode cX1_addRange 38 = .ok (.aload_n 0, 1) := by decide +kernel
theorem dX1_addRange_39 : decode cX1_addRange 39 = .ok (.getfield 36, 3) := by decide +kernel
theorem dX1_addRange_42 : decode cX1_addRange 42 = .ok (.iload 4, 2) := by decide +kernel
theorem dX1_addRange_44 : decode cX1_addRange 44 = .ok (.iconst 0, 1) := by decide +kernel
theorem dX1_addRange_45 : decode cX1_addRange 45 = .ok (.iastore, 1) := by decide +kernel
theorem dX1_addRange_46 : decode cX1_addRange 46 = .ok (.aload_n 0, 1) := by decide +kernel
theorem dX1_addRange_47 : decode cX1_addRange 47 = .ok (.dup, 1) := by decide +kernel
theorem dX1_addRange_48 : decode cX1_addRange 48 = .ok (.getfield 49, 3) := by decide +kernel
theorem dX1_addRange_51 : decode cX1_addRange 51 = .ok (.iconst 1, 1) := by decide +kernel
theorem dX1_addRange_52 : decode cX1_addRange 52 = .ok (.iadd, 1) := by decide +kernel
theorem dX1_addRange_53 : decode cX1_addRange 53 = .ok (.putfield 49, 3) := by decide +kernel
theorem dX1_addRange_56 : decode cX1_addRange 56 = .ok (.iload 4, 2) := by decide +kernel
theorem dX1_addRange_58 : decode cX1_addRange 58 = .ok (.ireturn, 1) := by decide +kernel
theorem dX1_removeRange_0 : decode cX1_removeRange 0 = .ok (.iload_n 1, 1) := by decide +kernel
theorem dX1_removeRange_1 : decode cX1_removeRange 1 = .ok (.istore_n 2, 1) := by decide +kernel
theorem dX1_removeRange_2 : decode cX1_removeRange 2 = .ok (.iload_n 2, 1) := by decide +kernel
theorem dX1_removeRange_3 : decode cX1_removeRange 3 = .ok (.iconst 1, 1) := by decide +kernel
theorem dX1_removeRange_4 : decode cX1_removeRange 4 = .ok (.iadd, 1) := by decide +kernel
theorem dX1_removeRange_5 : decode cX1_removeRange 5 = .ok (.aload_n 0, 1) := by decide +kernel
theorem dX1_removeRange_6 : decode cX1_removeRange 6 = .ok (.getfield 49, 3) := by decide +kernel
theorem dX1_removeRange_9 : decode cX1_removeRange 9 = .ok (.if_icmp .ge 79, 3) := by decide +kernel
theorem dX1_removeRange_12 : decode cX1_removeRange 12 = .ok (.aload_n 0, 1) := by decide +kernel
theorem dX1_removeRange_13 : decode cX1_removeRange 13 = .ok (.getfield 24, 3) := by decide +kernel
theorem dX1_removeRange_16 : decode cX1_removeRange 16 = .ok (.iload_n 2, 1) := by decide +kernel
theorem dX1_removeRange_17 : decode cX1_removeRange 17 = .ok (.aload_n 0, 1) := by decide +kernel
theorem dX1_removeRange_18 : decode cX1_removeRange 18 = .ok (.getfield 24, 3) := by decide +kernel
theorem dX1_removeRange_21 : decode cX1_removeRange 21 = .ok (.iload_n 2, 1) := by decide +kernel
theorem dX1_removeRange_22 : decode cX1_removeRange 22 = .ok (.iconst 1, 1) := by decide +kernel
theorem dX1_removeRange_23 : decode cX1_removeRange 23 = .ok (.iadd, 1) := by decide +kernel
theorem dX1_removeRange_24 : decode cX1_removeRange 24 = .ok (.iaload, 1) := by decide +kernel
theorem dX1_removeRange_25 : decode cX1_removeRange 25 = .ok (.iastore, 1) := by decide +kernel
theorem dX1_removeRange_26 : decode cX1_removeRange 26 = .ok (.aload_n 0, 1) := by decide +kernel
theorem dX1_removeRange_27 : decode cX1_removeRange 27 = .ok (.getfield 27, 3) := by decide +kernel
theorem dX1_removeRange_30 : decode cX1_removeRange 30 = .ok (.iload_n 2, 1) := by decide +kernel
theorem dX1_removeRange_31 : decode cX1_removeRange 31 = .ok (.aload_n 0, 1) := by decide +kernel
theorem dX1_removeRange_32 : decode cX1_removeRange 32 = .ok (.getfield 27, 3) := by decide +kernel
theorem dX1_removeRange_35 : decode cX1_removeRange 35 = .ok (.iload_n 2, 1) := by decide +kernel
theorem dX1_removeRange_36 : decode cX1_removeRange 36 = .ok (.iconst 1, 1) := by decide +kernel
theorem dX1_removeRange_37 : decode cX1_removeRange 37 = .ok (.iadd, 1) := by decide +kernel
theorem dX1_removeRange_38 : decode cX1_removeRange 38 = .ok (.iaload, 1) := by decide +kernel
theorem dX1_removeRange_39 : decode cX1_removeRange 39 = .ok (.iastore, 1) := by decide +kernel
theorem dX1_removeRange_40 : decode cX1_removeRange 40 = .ok (.aload_n 0, 1) := by decide +kernel
theorem dX1_removeRange_41 : decode cX1_removeRange 41 = .ok (.getfield 30, 3) := by decide +kernel
theorem dX1_removeRange_44 : decode cX1_removeRange 44 = .ok (.iload_n 2, 1) := by decide +kernel
theorem dX1_removeRange_45 : decode cX1_removeRange 45 = .ok (.aload_n 0, 1) := by decide +kernel
theorem dX1_removeRange_46 : decode cX1_removeRange 46 = .ok (.getfield 30, 3) := by decide +kernel
theorem dX1_removeRange_49 : decode cX1_removeRange 49 = .ok (.iload_n 2, 1) := by decide +kernel
theorem dX1_removeRange_50 : decode cX1_removeRange 50 = .ok (.iconst 1, 1) := by decide +kernel
theorem dX1_removeRange_51 : decode cX1_removeRange 51 = .ok (.iadd, 1) := by decide +kernel
theorem dX1_removeRange_52 : decode cX1_removeRange 52 = .ok (.iaload, 1) := by decide +kernel
theorem dX1_removeRange_53 : decode cX1_removeRange 53 = .ok (.iastore, 1) := by decide +kernel
theorem dX1_removeRange_54 : decode cX1_removeRange 54 = .ok (.aload_n 0, 1) := by decide +kernel
theorem dX1_removeRange_55 : decode cX1_removeRange 55 = .ok (.getfield 33, 3) := by decide +kernel
theorem dX1_removeRange_58 : decode cX1_removeRange 58 = .ok (.iload_n 2, 1) := by decide +kernel
theorem dX1_removeRange_59 : decode cX1_removeRange 59 = .ok (.aload_n 0, 1) := by decide +kernel
theorem dX1_removeRange_60 : decode cX1_removeRange 60 = .ok (.getfield 33, 3) := by decide +kernel
theorem dX1_removeRange_63 : decode cX1_removeRange 63 = .ok (.iload_n 2, 1) := by decide +kernel
theorem dX1_removeRange_64 : decode cX1_removeRange 64 = .ok (.iconst 1, 1) := by decide +kernel
theorem dX1_removeRange_65 : decode cX1_removeRange 65 = .ok (.iadd, 1) := by decide +kernel
theorem dX1_removeRange_66 : decode cX1_removeRange 66 = .ok (.iaload, 1) := by decide +kernel
theorem dX1_removeRange_67 : decode cX1_removeRange 67 = .ok (.iastore, 1) := by decide +kernel
theorem dX1_removeRange_68 : decode cX1_removeRange 68 = .ok (.aload_n 0, 1) := by decide +kernel
theorem dX1_removeRange_69 : decode cX1_removeRange 69 = .ok (.getfield 36, 3) := by decide +kernel
theorem dX1_removeRange_72 : decode cX1_removeRange 72 = .ok (.iload_n 2, 1) := by decide +kernel
theorem dX1_removeRange_73 : decode cX1_removeRange 73 = .ok (.aload_n 0, 1) := by decide +kernel
theorem dX1_removeRange_74 : decode cX1_removeRange 74 = .ok (.getfield 36, 3) := by decide +kernel
theorem dX1_removeRange_77 : decode cX1_removeRange 77 = .ok (.iload_n 2, 1) := by decide +kernel
theorem dX1_removeRange_78 : decode cX1_removeRange 78 = .ok (.iconst 1, 1) := by decide +kernel
theorem dX1_removeRange_79 : decode cX1_removeRange 79 = .ok (.iadd, 1) := by decide +kernel
theorem dX1_removeRange_80 : decode cX1_removeRange 80 = .ok (.iaload, 1) := by decide +kernel
theorem dX1_removeRange_81 : decode cX1_removeRange 81 = .ok (.iastore, 1) := by decide +kernel
theorem dX1_removeRange_82 : decode cX1_removeRange 82 = .ok (.iinc 2 1, 3) := by decide +kernel
theorem dX1_removeRange_85 : decode cX1_removeRange 85 = .ok (.goto (-83), 3) := by decide +kernel
theorem dX1_removeRange_88 : decode cX1_removeRange 88 = .ok (.aload_n 0, 1) := by decide +kernel
theorem dX1_removeRange_89 : decode cX1_removeRange 89 = .ok (.dup, 1) := by decide +kernel
theorem dX1_removeRange_90 : decode cX1_removeRange 90 = .ok (.getfield 49, 3) := by decide +kernel
theorem dX1_removeRange_93 : decode cX1_removeRange 93 = .ok (.iconst 1, 1) := by decide +kernel
theorem dX1_removeRange_94 : decode cX1_removeRange 94 = .ok (.isub, 1) := by decide +kernel
theorem dX1_removeRange_95 : decode cX1_removeRange 95 = .ok (.putfield 49, 3) := by decide +kernel
theorem dX1_removeRange_98 : decode cX1_removeRange 98 = .ok (.return_, 1) := by decide +kernel
theorem dX1_changePlaces_0 : decode cX1_changePlaces 0 = .ok (.aload_n 0, 1) := by decide +kernel
theorem dX1_changePlaces_1 : decode cX1_changePlaces 1 = .ok (.getfield 27, 3) := by decide +kernel
theorem dX1_changePlaces_4 : decode cX1_changePlaces 4 = .ok (.iload_n 1, 1) := by decide +kernel
theorem dX1_changePlaces_5 : decode cX1_changePlaces 5 = .ok (.iaload, 1) := by decide +kernel
theorem dX1_changePlaces_6 : decode cX1_changePlaces 6 = .ok (.istore_n 3, 1) := by decide +kernel
theorem dX1_changePlaces_7 : decode cX1_changePlaces 7 = .ok (.aload_n 0, 1) := by decide +kernel
theorem dX1_changePlaces_8 : decode cX1_changePlaces 8 = .ok (.getfield 27, 3) := by decide +kernel
theorem dX1_changePlaces_11 : decode cX1_changePlaces 11 = .ok (.iload_n 1, 1) := by decide +kernel
theorem dX1_changePlaces_12 : decode cX1_changePlaces 12 = .ok (.aload_n 0, 1) := by decide +kernel
theorem dX1_changePlaces_13 : decode cX1_changePlaces 13 = .ok (.getfield 27, 3) := by decide +kernel
theorem dX1_changePlaces_16 : decode cX1_changePlaces 16 = .ok (.iload_n 2, 1) := by decide +kernel
theorem dX1_changePlaces_17 : decode cX1_changePlaces 17 = .ok (.iaload, 1) := by decide +kernel
theorem dX1_changePlaces_18 : decode cX1_changePlaces 18 = .ok (.iastore, 1) := by decide +kernel
theorem dX1_changePlaces_19 : decode cX1_changePlaces 19 = .ok (.aload_n 0, 1) := by decide +kernel
theorem dX1_changePlaces_20 : decode cX1_changePlaces 20 = .ok (.getfield 27, 3) := by decide +kernel
theorem dX1_changePlaces_23 : decode cX1_changePlaces 23 = .ok (.iload_n 2, 1) := by decide +kernel
theorem dX1_changePlaces_24 : decode cX1_changePlaces 24 = .ok (.iload_n 3, 1) := by decide +kernel
theorem dX1_changePlaces_25 : decode cX1_changePlaces 25 = .ok (.iastore, 1) := by decide +kernel
theorem dX1_changePlaces_26 : decode cX1_changePlaces 26 = .ok (.return_, 1) := by decide +kernel
theorem dX1_rangeIn_0 : decode cX1_rangeIn 0 = .ok (.iconst 0, 1) := by decide +kernel
theorem dX1_rangeIn_1 : decode cX1_rangeIn 1 = .ok (.istore_n 2, 1) := by decide +kernel
theorem dX1_rangeIn_2 : decode cX1_rangeIn 2 = .ok (.iload_n 2, 1) := by decide +kernel
theorem dX1_rangeIn_3 : decode cX1_rangeIn 3 = .ok (.aload_n 0, 1) := by decide +kernel
theorem dX1_rangeIn_4 : decode cX1_rangeIn 4 = .ok (.getfield 49, 3) := by decide +kernel
theorem dX1_rangeIn_7 : decode cX1_rangeIn 7 = .ok (.if_icmp .ge 21, 3) := by decide +kernel
theorem dX1_rangeIn_10 : decode cX1_rangeIn 10 = .ok (.aload_n 0, 1) := by decide +kernel
theorem dX1_rangeIn_11 : decode cX1_rangeIn 11 = .ok (.getfield 27, 3) := by decide +kernel
theorem dX1_rangeIn_14 : decode cX1_rangeIn 14 = .ok (.iload_n 2, 1) := by decide +kernel
theorem dX1_rangeIn_15 : decode cX1_rangeIn 15 = .ok (.iaload, 1) := by decide +kernel
theorem dX1_rangeIn_16 : decode cX1_rangeIn 16 = .ok (.iload_n 1, 1) := by decide +kernel
theorem dX1_rangeIn_17 : decode cX1_rangeIn 17 = .ok (.if_icmp .ne 5, 3) := by decide +kernel
theorem dX1_rangeIn_20 : decode cX1_rangeIn 20 = .ok (.iload_n 2, 1) := by decide +kernel
theorem dX1_rangeIn_21 : decode cX1_rangeIn 21 = .ok (.ireturn, 1) := by decide +kernel
theorem dX1_rangeIn_22 : decode cX1_rangeIn 22 = .ok (.iinc 2 1, 3) := by decide +kernel
theorem dX1_rangeIn_25 : decode cX1_rangeIn 25 = .ok (.goto (-23), 3) := by decide +kernel
theorem dX1_rangeIn_28 : decode cX1_rangeIn 28 = .ok (.iconst (-1), 1) := by decide +kernel
theorem dX1_rangeIn_29 : decode cX1_rangeIn 29 = .ok (.ireturn, 1) := by decide +kernel
theorem dX1_rangeAhead_0 : decode cX1_rangeAhead 0 = .ok (.aload_n 0, 1) := by decide +kernel
theorem dX1_rangeAhead_1 : decode cX1_rangeAhead 1 = .ok (.getfield 27, 3) := by decide +kernel
theorem dX1_rangeAhead_4 : decode cX1_rangeAhead 4 = .ok (.iload_n 1, 1) := by decide +kernel
theorem dX1_rangeAhead_5 : decode cX1_rangeAhead 5 = .ok (.iaload, 1) := by decide +kernel
theorem dX1_rangeAhead_6 : decode cX1_rangeAhead 6 = .ok (.invokestatic 65, 3) := by decide +kernel
theorem dX1_rangeAhead_9 : decode cX1_rangeAhead 9 = .ok (.istore_n 2, 1) := by decide +kernel
theorem dX1_rangeAhead_10 : decode cX1_rangeAhead 10 = .ok (.aload_n 0, 1) := by decide +kernel
theorem dX1_rangeAhead_11 : decode cX1_rangeAhead 11 = .ok (.iload_n 2, 1) := by decide +kernel
theorem dX1_rangeAhead_12 : decode cX1_rangeAhead 12 = .ok (.invokevirtual 68, 3) := by decide +kernel
theorem dX1_rangeAhead_15 : decode cX1_rangeAhead 15 = .ok (.ifCond .eq 11, 3) := by decide +kernel
theorem dX1_rangeAhead_18 : decode cX1_rangeAhead 18 = .ok (.aload_n 0, 1) := by decide +kernel
theorem dX1_rangeAhead_19 : decode cX1_rangeAhead 19 = .ok (.iload_n 2, 1) := by decide +kernel
theorem dX1_rangeAhead_20 : decode cX1_rangeAhead 20 = .ok (.invokevirtual 61, 3) := by decide +kernel
theorem dX1_rangeAhead_23 : decode cX1_rangeAhead 23 = .ok (.goto 4, 3) := by decide +kernel
theorem dX1_rangeAhead_26 : decode cX1_rangeAhead 26 = .ok (.iconst (-1), 1) := by decide +kernel
theorem dX1_rangeAhead_27 : decode cX1_rangeAhead 27 = .ok (.ireturn, 1) := by decide +kernel
theorem dX1_otherTwins_0 : decode cX1_otherTwins 0 = .ok (.iconst 0, 1) := by decide +kernel
theorem dX1_otherTwins_1 : decode cX1_otherTwins 1 = .ok (.istore_n 2, 1) := by decide +kernel
theorem dX1_otherTwins_2 : decode cX1_otherTwins 2 = .ok (.iconst 0, 1) := by decide +kernel
theorem dX1_otherTwins_3 : decode cX1_otherTwins 3 = .ok (.istore_n 3, 1) := by decide +kernel
theorem dX1_otherTwins_4 : decode cX1_otherTwins 4 = .ok (.iload_n 3, 1) := by decide +kernel
theorem dX1_otherTwins_5 : decode cX1_otherTwins 5 = .ok (.aload_n 0, 1) := by decide +kernel
theorem dX1_otherTwins_6 : decode cX1_otherTwins 6 = .ok (.getfield 49, 3) := by decide +kernel
theorem dX1_otherTwins_9 : decode cX1_otherTwins 9 = .ok (.if_icmp .ge 27, 3) := by decide +kernel
theorem dX1_otherTwins_12 : decode cX1_otherTwins 12 = .ok (.iload_n 3, 1) := by decide +kernel
theorem dX1_otherTwins_13 : decode cX1_otherTwins 13 = .ok (.iload_n 1, 1) := by decide +kernel
theorem dX1_otherTwins_14 : decode cX1_otherTwins 14 = .ok (.if_icmp .eq 16, 3) := by decide +kernel
theorem dX1_otherTwins_17 : decode cX1_otherTwins 17 = .ok (.aload_n 0, 1) := by decide +kernel
theorem dX1_otherTwins_18 : decode cX1_otherTwins 18 = .ok (.getfield 24, 3) := by decide +kernel
theorem dX1_otherTwins_21 : decode cX1_otherTwins 21 = .ok (.iload_n 3, 1) := by decide +kernel
theorem dX1_otherTwins_22 : decode cX1_otherTwins 22 = .ok (.iaload, 1) := by decide +kernel
theorem dX1_otherTwins_23 : decode cX1_otherTwins 23 = .ok (.iconst 5, 1) := by decide +kernel
theorem dX1_otherTwins_24 : decode cX1_otherTwins 24 = .ok (.if_icmp .ne 6, 3) := by decide +kernel
theorem dX1_otherTwins_27 : decode cX1_otherTwins 27 = .ok (.iinc 2 1, 3) := by decide +kernel
theorem dX1_otherTwins_30 : decode cX1_otherTwins 30 = .ok (.iinc 3 1, 3) := by decide +kernel
theorem dX1_otherTwins_33 : decode cX1_otherTwins 33 = .ok (.goto (-29), 3) := by decide +kernel
theorem dX1_otherTwins_36 : decode cX1_otherTwins 36 = .ok (.iload_n 2, 1) := by decide +kernel
theorem dX1_otherTwins_37 : decode cX1_otherTwins 37 = .ok (.ireturn, 1) := by decide +kernel
theorem dX1_strideOf_0 : decode cX1_strideOf 0 = .ok (.iconst 2, 1) := by decide +kernel
theorem dX1_strideOf_1 : decode cX1_strideOf 1 = .ok (.aload_n 0, 1) := by decide +kernel
theorem dX1_strideOf_2 : decode cX1_strideOf 2 = .ok (.getfield 30, 3) := by decide +kernel
theorem dX1_strideOf_5 : decode cX1_strideOf 5 = .ok (.iload_n 1, 1) := by decide +kernel
theorem dX1_strideOf_6 : decode cX1_strideOf 6 = .ok (.iaload, 1) := by decide +kernel
theorem dX1_strideOf_7 : decode cX1_strideOf 7 = .ok (.iconst 3, 1) := by decide +kernel
theorem dX1_strideOf_8 : decode cX1_strideOf 8 = .ok (.idiv, 1) := by decide +kernel
theorem dX1_strideOf_9 : decode cX1_strideOf 9 = .ok (.iadd, 1) := by decide +kernel
theorem dX1_strideOf_10 : decode cX1_strideOf 10 = .ok (.istore_n 2, 1) := by decide +kernel
theorem dX1_strideOf_11 : decode cX1_strideOf 11 = .ok (.aload_n 0, 1) := by decide +kernel
theorem dX1_strideOf_12 : decode cX1_strideOf 12 = .ok (.getfield 24, 3) := by decide +kernel
theorem dX1_strideOf_15 : decode cX1_strideOf 15 = .ok (.iload_n 1, 1) := by decide +kernel
theorem dX1_strideOf_16 : decode cX1_strideOf 16 = .ok (.iaload, 1) := by decide +kernel
theorem dX1_strideOf_17 : decode cX1_strideOf 17 = .ok (.tableswitch 76 1 5 #[35, 39, 43, 56, 66], 35) := by decide +kernel
theorem dX1_strideOf_52 : decode cX1_strideOf 52 = .ok (.iload_n 2, 1) := by decide +kernel
theorem dX1_strideOf_53 : decode cX1_strideOf 53 = .ok (.iconst 1, 1) := by decide +kernel
theorem dX1_strideOf_54 : decode cX1_strideOf 54 = .ok (.iadd, 1) := by decide +kernel
theorem dX1_strideOf_55 : decode cX1_strideOf 55 = .ok (.ireturn, 1) := by decide +kernel
theorem dX1_strideOf_56 : decode cX1_strideOf 56 = .ok (.iload_n 2, 1) := by decide +kernel
theorem dX1_strideOf_57 : decode cX1_strideOf 57 = .ok (.iconst 2, 1) := by decide +kernel
theorem dX1_strideOf_58 : decode cX1_strideOf 58 = .ok (.idiv, 1) := by decide +kernel
theorem dX1_strideOf_59 : decode cX1_strideOf 59 = .ok (.ireturn, 1) := by decide +kernel
theorem dX1_strideOf_60 : decode cX1_strideOf 60 = .ok (.aload_n 0, 1) := by decide +kernel
theorem dX1_strideOf_61 : decode cX1_strideOf 61 = .ok (.invokevirtual 72, 3) := by decide +kernel
theorem dX1_strideOf_64 : decode cX1_strideOf 64 = .ok (.ifCond .eq 7, 3) := by decide +kernel
theorem dX1_strideOf_67 : decode cX1_strideOf 67 = .ok (.iload_n 2, 1) := by decide +kernel
theorem dX1_strideOf_68 : decode cX1_strideOf 68 = .ok (.goto 4, 3) := by decide +kernel
theorem dX1_strideOf_71 : decode cX1_strideOf 71 = .ok (.iconst 0, 1) := by decide +kernel
theorem dX1_strideOf_72 : decode cX1_strideOf 72 = .ok (.ireturn, 1) := by decide +kernel
theorem dX1_strideOf_73 : decode cX1_strideOf 73 = .ok (.iconst 0, 1) := by decide +kernel
theorem dX1_strideOf_74 : decode cX1_strideOf 74 = .ok (.iload_n 2, 1) := by decide +kernel
theorem dX1_strideOf_75 : decode cX1_strideOf 75 = .ok (.iconst 1, 1) := by decide +kernel
theorem dX1_strideOf_76 : decode cX1_strideOf 76 = .ok (.iadd, 1) := by decide +kernel
theorem dX1_strideOf_77 : decode cX1_strideOf 77 = .ok (.iconst 2, 1) := by decide +kernel
theorem dX1_strideOf_78 : decode cX1_strideOf 78 = .ok (.isub, 1) := by decide +kernel
theorem dX1_strideOf_79 : decode cX1_strideOf 79 = .ok (.invokestatic 76, 3) := by decide +kernel
theorem dX1_strideOf_82 : decode cX1_strideOf 82 = .ok (.ireturn, 1) := by decide +kernel
theorem dX1_strideOf_83 : decode cX1_strideOf 83 = .ok (.iload_n 2, 1) := by decide +kernel
theorem dX1_strideOf_84 : decode cX1_strideOf 84 = .ok (.iconst 2, 1) := by decide +kernel
theorem dX1_strideOf_85 : decode cX1_strideOf 85 = .ok (.idiv, 1) := by decide +kernel
theorem dX1_strideOf_86 : decode cX1_strideOf 86 = .ok (.aload_n 0, 1) := by decide +kernel
theorem dX1_strideOf_87 : decode cX1_strideOf 87 = .ok (.iload_n 1, 1) := by decide +kernel
theorem dX1_strideOf_88 : decode cX1_strideOf 88 = .ok (.invokevirtual 82, 3) := by decide +kernel
theorem dX1_strideOf_91 : decode cX1_strideOf 91 = .ok (.iadd, 1) := by decide +kernel
theorem dX1_strideOf_92 : decode cX1_strideOf 92 = .ok (.ireturn, 1) := by decide +kernel
theorem dX1_strideOf_93 : decode cX1_strideOf 93 = .ok (.iload_n 2, 1) := by decide +kernel
theorem dX1_strideOf_94 : decode cX1_strideOf 94 = .ok (.ireturn, 1) := by decide +kernel
theorem dX1_worth_0 : decode cX1_worth 0 = .ok (.iload_n 1, 1) := by decide +kernel
theorem dX1_worth_1 : decode cX1_worth 1 = .ok (.aload_n 0, 1) := by decide +kernel
theorem dX1_worth_2 : decode cX1_worth 2 = .ok (.getfield 21, 3) := by decide +kernel
theorem dX1_worth_5 : decode cX1_worth 5 = .ok (.iconst 0, 1) := by decide +kernel
theorem dX1_worth_6 : decode cX1_worth 6 = .ok (.iaload, 1) := by decide +kernel
theorem dX1_worth_7 : decode cX1_worth 7 = .ok (.imul, 1) := by decide +kernel
theorem dX1_worth_8 : decode cX1_worth 8 = .ok (.aload_n 0, 1) := by decide +kernel
theorem dX1_worth_9 : decode cX1_worth 9 = .ok (.getfield 30, 3) := by decide +kernel
theorem dX1_worth_12 : decode cX1_worth 12 = .ok (.iload_n 1, 1) := by decide +kernel
theorem dX1_worth_13 : decode cX1_worth 13 = .ok (.iaload, 1) := by decide +kernel
theorem dX1_worth_14 : decode cX1_worth 14 = .ok (.aload_n 0, 1) := by decide +kernel
theorem dX1_worth_15 : decode cX1_worth 15 = .ok (.getfield 21, 3) := by decide +kernel
theorem dX1_worth_18 : decode cX1_worth 18 = .ok (.iconst 1, 1) := by decide +kernel
theorem dX1_worth_19 : decode cX1_worth 19 = .ok (.iaload, 1) := by decide +kernel
theorem dX1_worth_20 : decode cX1_worth 20 = .ok (.imul, 1) := by decide +kernel
theorem dX1_worth_21 : decode cX1_worth 21 = .ok (.iadd, 1) := by decide +kernel
theorem dX1_worth_22 : decode cX1_worth 22 = .ok (.aload_n 0, 1) := by decide +kernel
theorem dX1_worth_23 : decode cX1_worth 23 = .ok (.getfield 33, 3) := by decide +kernel
theorem dX1_worth_26 : decode cX1_worth 26 = .ok (.iload_n 1, 1) := by decide +kernel
theorem dX1_worth_27 : decode cX1_worth 27 = .ok (.iaload, 1) := by decide +kernel
theorem dX1_worth_28 : decode cX1_worth 28 = .ok (.aload_n 0, 1) := by decide +kernel
theorem dX1_worth_29 : decode cX1_worth 29 = .ok (.getfield 21, 3) := by decide +kernel
theorem dX1_worth_32 : decode cX1_worth 32 = .ok (.iconst 2, 1) := by decide +kernel
theorem dX1_worth_33 : decode cX1_worth 33 = .ok (.iaload, 1) := by decide +kernel
theorem dX1_worth_34 : decode cX1_worth 34 = .ok (.imul, 1) := by decide +kernel
theorem dX1_worth_35 : decode cX1_worth 35 = .ok (.iadd, 1) := by decide +kernel
theorem dX1_worth_36 : decode cX1_worth 36 = .ok (.aload_n 0, 1) := by decide +kernel
theorem dX1_worth_37 : decode cX1_worth 37 = .ok (.getfield 27, 3) := by decide +kernel
theorem dX1_worth_40 : decode cX1_worth 40 = .ok (.iload_n 1, 1) := by decide +kernel
theorem dX1_worth_41 : decode cX1_worth 41 = .ok (.iaload, 1) := by decide +kernel
theorem dX1_worth_42 : decode cX1_worth 42 = .ok (.aload_n 0, 1) := by decide +kernel
theorem dX1_worth_43 : decode cX1_worth 43 = .ok (.getfield 21, 3) := by decide +kernel
theorem dX1_worth_46 : decode cX1_worth 46 = .ok (.iconst 3, 1) := by decide +kernel
theorem dX1_worth_47 : decode cX1_worth 47 = .ok (.iaload, 1) := by decide +kernel
theorem dX1_worth_48 : decode cX1_worth 48 = .ok (.imul, 1) := by decide +kernel
theorem dX1_worth_49 : decode cX1_worth 49 = .ok (.iadd, 1) := by decide +kernel
theorem dX1_worth_50 : decode cX1_worth 50 = .ok (.ireturn, 1) := by decide +kernel
theorem dX1_putInOrder_0 : decode cX1_putInOrder 0 = .ok (.iconst 0, 1) := by decide +kernel
theorem dX1_putInOrder_1 : decode cX1_putInOrder 1 = .ok (.istore_n 1, 1) := by decide +kernel
theorem dX1_putInOrder_2 : decode cX1_putInOrder 2 = .ok (.iload_n 1, 1) := by decide +kernel
theorem dX1_putInOrder_3 : decode cX1_putInOrder 3 = .ok (.aload_n 0, 1) := by decide +kernel
theorem dX1_putInOrder_4 : decode cX1_putInOrder 4 = .ok (.getfield 49, 3) := by decide +kernel
theorem dX1_putInOrder_7 : decode cX1_putInOrder 7 = .ok (.if_icmp .ge 72, 3) := by decide +kernel
theorem dX1_putInOrder_10 : decode cX1_putInOrder 10 = .ok (.aload_n 0, 1) := by decide +kernel
theorem dX1_putInOrder_11 : decode cX1_putInOrder 11 = .ok (.iload_n 1, 1) := by decide +kernel
theorem dX1_putInOrder_12 : decode cX1_putInOrder 12 = .ok (.invokevirtual 85, 3) := by decide +kernel
theorem dX1_putInOrder_15 : decode cX1_putInOrder 15 = .ok (.istore_n 2, 1) := by decide +kernel
theorem dX1_putInOrder_16 : decode cX1_putInOrder 16 = .ok (.aload_n 0, 1) := by decide +kernel
theorem dX1_putInOrder_17 : decode cX1_putInOrder 17 = .ok (.getfield 39, 3) := by decide +kernel
theorem dX1_putInOrder_20 : decode cX1_putInOrder 20 = .ok (.iload_n 1, 1) := by decide +kernel
theorem dX1_putInOrder_21 : decode cX1_putInOrder 21 = .ok (.iload_n 2, 1) := by decide +kernel
theorem dX1_putInOrder_22 : decode cX1_putInOrder 22 = .ok (.iastore, 1) := by decide +kernel
theorem dX1_putInOrder_23 : decode cX1_putInOrder 23 = .ok (.iload_n 1, 1) := by decide +kernel
theorem dX1_putInOrder_24 : decode cX1_putInOrder 24 = .ok (.istore_n 3, 1) := by decide +kernel
theorem dX1_putInOrder_25 : decode cX1_putInOrder 25 = .ok (.iload_n 3, 1) := by decide +kernel
theorem dX1_putInOrder_26 : decode cX1_putInOrder 26 = .ok (.ifCond .le 40, 3) := by decide +kernel
theorem dX1_putInOrder_29 : decode cX1_putInOrder 29 = .ok (.aload_n 0, 1) := by decide +kernel
theorem dX1_putInOrder_30 : decode cX1_putInOrder 30 = .ok (.getfield 39, 3) := by decide +kernel
theorem dX1_putInOrder_33 : decode cX1_putInOrder 33 = .ok (.aload_n 0, 1) := by decide +kernel
theorem dX1_putInOrder_34 : decode cX1_putInOrder 34 = .ok (.getfield 42, 3) := by decide +kernel
theorem dX1_putInOrder_37 : decode cX1_putInOrder 37 = .ok (.iload_n 3, 1) := by decide +kernel
theorem dX1_putInOrder_38 : decode cX1_putInOrder 38 = .ok (.iconst 1, 1) := by decide +kernel
theorem dX1_putInOrder_39 : decode cX1_putInOrder 39 = .ok (.isub, 1) := by decide +kernel
theorem dX1_putInOrder_40 : decode cX1_putInOrder 40 = .ok (.iaload, 1) := by decide +kernel
theorem dX1_putInOrder_41 : decode cX1_putInOrder 41 = .ok (.iaload, 1) := by decide +kernel
theorem dX1_putInOrder_42 : decode cX1_putInOrder 42 = .ok (.iload_n 2, 1) := by decide +kernel
theorem dX1_putInOrder_43 : decode cX1_putInOrder 43 = .ok (.if_icmp .le 23, 3) := by decide +kernel
theorem dX1_putInOrder_46 : decode cX1_putInOrder 46 = .ok (.aload_n 0, 1) := by decide +kernel
theorem dX1_putInOrder_47 : decode cX1_putInOrder 47 = .ok (.getfield 42, 3) := by decide +kernel
theorem dX1_putInOrder_50 : decode cX1_putInOrder 50 = .ok (.iload_n 3, 1) := by decide +kernel
theorem dX1_putInOrder_51 : decode cX1_putInOrder 51 = .ok (.aload_n 0, 1) := by decide +kernel
theorem dX1_putInOrder_52 : decode cX1_putInOrder 52 = .ok (.getfield 42, 3) := by decide +kernel
theorem dX1_putInOrder_55 : decode cX1_putInOrder 55 = .ok (.iload_n 3, 1) := by decide +kernel
theorem dX1_putInOrder_56 : decode cX1_putInOrder 56 = .ok (.iconst 1, 1) := by decide +kernel
theorem dX1_putInOrder_57 : decode cX1_putInOrder 57 = .ok (.isub, 1) := by decide +kernel
theorem dX1_putInOrder_58 : decode cX1_putInOrder 58 = .ok (.iaload, 1) := by decide +kernel
theorem dX1_putInOrder_59 : decode cX1_putInOrder 59 = .ok (.iastore, 1) := by decide +kernel
theorem dX1_putInOrder_60 : decode cX1_putInOrder 60 = .ok (.iinc 3 (-1), 3) := by decide +kernel
theorem dX1_putInOrder_63 : decode cX1_putInOrder 63 = .ok (.goto (-38), 3) := by decide +kernel
theorem dX1_putInOrder_66 : decode cX1_putInOrder 66 = .ok (.aload_n 0, 1) := by decide +kernel
theorem dX1_putInOrder_67 : decode cX1_putInOrder 67 = .ok (.getfield 42, 3) := by decide +kernel
theorem dX1_putInOrder_70 : decode cX1_putInOrder 70 = .ok (.iload_n 3, 1) := by decide +kernel
theorem dX1_putInOrder_71 : decode cX1_putInOrder 71 = .ok (.iload_n 1, 1) := by decide +kernel
theorem dX1_putInOrder_72 : decode cX1_putInOrder 72 = .ok (.iastore, 1) := by decide +kernel
theorem dX1_putInOrder_73 : decode cX1_putInOrder 73 = .ok (.iinc 1 1, 3) := by decide +kernel
theorem dX1_putInOrder_76 : decode cX1_putInOrder 76 = .ok (.goto (-74), 3) := by decide +kernel
theorem dX1_putInOrder_79 : decode cX1_putInOrder 79 = .ok (.return_, 1) := by decide +kernel
theorem dX1_whoGoesBefore_0 : decode cX1_whoGoesBefore 0 = .ok (.aload_n 0, 1) := by decide +kernel
theorem dX1_whoGoesBefore_1 : decode cX1_whoGoesBefore 1 = .ok (.invokevirtual 88, 3) := by decide +kernel
theorem dX1_whoGoesBefore_4 : decode cX1_whoGoesBefore 4 = .ok (.iconst (-1), 1) := by decide +kernel
theorem dX1_whoGoesBefore_5 : decode cX1_whoGoesBefore 5 = .ok (.istore_n 2, 1) := by decide +kernel
theorem dX1_whoGoesBefore_6 : decode cX1_whoGoesBefore 6 = .ok (.iconst 0, 1) := by decide +kernel
theorem dX1_whoGoesBefore_7 : decode cX1_whoGoesBefore 7 = .ok (.istore_n 3, 1) := by decide +kernel
theorem dX1_whoGoesBefore_8 : decode cX1_whoGoesBefore 8 = .ok (.iload_n 3, 1) := by decide +kernel
theorem dX1_whoGoesBefore_9 : decode cX1_whoGoesBefore 9 = .ok (.aload_n 0, 1) := by decide +kernel
theorem dX1_whoGoesBefore_10 : decode cX1_whoGoesBefore 10 = .ok (.getfield 49, 3) := by decide +kernel
theorem dX1_whoGoesBefore_13 : decode cX1_whoGoesBefore 13 = .ok (.if_icmp .ge 26, 3) := by decide +kernel
theorem dX1_whoGoesBefore_16 : decode cX1_whoGoesBefore 16 = .ok (.aload_n 0, 1) := by decide +kernel
theorem dX1_whoGoesBefore_17 : decode cX1_whoGoesBefore 17 = .ok (.getfield 42, 3) := by decide +kernel
theorem dX1_whoGoesBefore_20 : decode cX1_whoGoesBefore 20 = .ok (.iload_n 3, 1) := by decide +kernel
theorem dX1_whoGoesBefore_21 : decode cX1_whoGoesBefore 21 = .ok (.iaload, 1) := by decide +kernel
theorem dX1_whoGoesBefore_22 : decode cX1_whoGoesBefore 22 = .ok (.iload_n 1, 1) := by decide +kernel
theorem dX1_whoGoesBefore_23 : decode cX1_whoGoesBefore 23 = .ok (.if_icmp .eq 16, 3) := by decide +kernel
theorem dX1_whoGoesBefore_26 : decode cX1_whoGoesBefore 26 = .ok (.aload_n 0, 1) := by decide +kernel
theorem dX1_whoGoesBefore_27 : decode cX1_whoGoesBefore 27 = .ok (.getfield 42, 3) := by decide +kernel
theorem dX1_whoGoesBefore_30 : decode cX1_whoGoesBefore 30 = .ok (.iload_n 3, 1) := by decide +kernel
theorem dX1_whoGoesBefore_31 : decode cX1_whoGoesBefore 31 = .ok (.iaload, 1) := by decide +kernel
theorem dX1_whoGoesBefore_32 : decode cX1_whoGoesBefore 32 = .ok (.istore_n 2, 1) := by decide +kernel
theorem dX1_whoGoesBefore_33 : decode cX1_whoGoesBefore 33 = .ok (.iinc 3 1, 3) := by decide +kernel
theorem dX1_whoGoesBefore_36 : decode cX1_whoGoesBefore 36 = .ok (.goto (-28), 3) := by decide +kernel
theorem dX1_whoGoesBefore_39 : decode cX1_whoGoesBefore 39 = .ok (.iload_n 2, 1) := by decide +kernel
theorem dX1_whoGoesBefore_40 : decode cX1_whoGoesBefore 40 = .ok (.ireturn, 1) := by decide +kernel
theorem dX1_goSeasons_0 : decode cX1_goSeasons 0 = .ok (.iconst 0, 1) := by decide +kernel
theorem dX1_goSeasons_1 : decode cX1_goSeasons 1 = .ok (.istore_n 2, 1) := by decide +kernel
theorem dX1_goSeasons_2 : decode cX1_goSeasons 2 = .ok (.iload_n 2, 1) := by decide +kernel
theorem dX1_goSeasons_3 : decode cX1_goSeasons 3 = .ok (.iload_n 1, 1) := by decide +kernel
theorem dX1_goSeasons_4 : decode cX1_goSeasons 4 = .ok (.if_icmp .ge 13, 3) := by decide +kernel
theorem dX1_goSeasons_7 : decode cX1_goSeasons 7 = .ok (.aload_n 0, 1) := by decide +kernel
theorem dX1_goSeasons_8 : decode cX1_goSeasons 8 = .ok (.invokevirtual 91, 3) := by decide +kernel
theorem dX1_goSeasons_11 : decode cX1_goSeasons 11 = .ok (.iinc 2 1, 3) := by decide +kernel
theorem dX1_goSeasons_14 : decode cX1_goSeasons 14 = .ok (.goto (-12), 3) := by decide +kernel
theorem dX1_goSeasons_17 : decode cX1_goSeasons 17 = .ok (.return_, 1) := by decide +kernel
theorem dX1_goSeason_0 : decode cX1_goSeason 0 = .ok (.aload_n 0, 1) := by decide +kernel
theorem dX1_goSeason_1 : decode cX1_goSeason 1 = .ok (.invokevirtual 88, 3) := by decide +kernel
theorem dX1_goSeason_4 : decode cX1_goSeason 4 = .ok (.aload_n 0, 1) := by decide +kernel
theorem dX1_goSeason_5 : decode cX1_goSeason 5 = .ok (.invokevirtual 94, 3) := by decide +kernel
theorem dX1_goSeason_8 : decode cX1_goSeason 8 = .ok (.istore_n 1, 1) := by decide +kernel
theorem dX1_goSeason_9 : decode cX1_goSeason 9 = .ok (.aload_n 0, 1) := by decide +kernel
theorem dX1_goSeason_10 : decode cX1_goSeason 10 = .ok (.invokevirtual 98, 3) := by decide +kernel
theorem dX1_goSeason_13 : decode cX1_goSeason 13 = .ok (.istore_n 2, 1) := by decide +kernel
theorem dX1_goSeason_14 : decode cX1_goSeason 14 = .ok (.iconst 0, 1) := by decide +kernel
theorem dX1_goSeason_15 : decode cX1_goSeason 15 = .ok (.istore_n 3, 1) := by decide +kernel
theorem dX1_goSeason_16 : decode cX1_goSeason 16 = .ok (.iload_n 3, 1) := by decide +kernel
theorem dX1_goSeason_17 : decode cX1_goSeason 17 = .ok (.aload_n 0, 1) := by decide +kernel
theorem dX1_goSeason_18 : decode cX1_goSeason 18 = .ok (.getfield 49, 3) := by decide +kernel
theorem dX1_goSeason_21 : decode cX1_goSeason 21 = .ok (.if_icmp .ge 32, 3) := by decide +kernel
theorem dX1_goSeason_24 : decode cX1_goSeason 24 = .ok (.aload_n 0, 1) := by decide +kernel
theorem dX1_goSeason_25 : decode cX1_goSeason 25 = .ok (.aload_n 0, 1) := by decide +kernel
theorem dX1_goSeason_26 : decode cX1_goSeason 26 = .ok (.getfield 42, 3) := by decide +kernel
theorem dX1_goSeason_29 : decode cX1_goSeason 29 = .ok (.iload_n 3, 1) := by decide +kernel
theorem dX1_goSeason_30 : decode cX1_goSeason 30 = .ok (.iaload, 1) := by decide +kernel
theorem dX1_goSeason_31 : decode cX1_goSeason 31 = .ok (.aload_n 0, 1) := by decide +kernel
theorem dX1_goSeason_32 : decode cX1_goSeason 32 = .ok (.aload_n 0, 1) := by decide +kernel
theorem dX1_goSeason_33 : decode cX1_goSeason 33 = .ok (.getfield 42, 3) := by decide +kernel
theorem dX1_goSeason_36 : decode cX1_goSeason 36 = .ok (.iload_n 3, 1) := by decide +kernel
theorem dX1_goSeason_37 : decode cX1_goSeason 37 = .ok (.iaload, 1) := by decide +kernel
theorem dX1_goSeason_38 : decode cX1_goSeason 38 = .ok (.invokevirtual 101, 3) := by decide +kernel
theorem dX1_goSeason_41 : decode cX1_goSeason 41 = .ok (.iload_n 1, 1) := by decide +kernel
theorem dX1_goSeason_42 : decode cX1_goSeason 42 = .ok (.iload_n 2, 1) := by decide +kernel
theorem dX1_goSeason_43 : decode cX1_goSeason 43 = .ok (.invokevirtual 104, 3) := by decide +kernel
theorem dX1_goSeason_46 : decode cX1_goSeason 46 = .ok (.istore_n 2, 1) := by decide +kernel
theorem dX1_goSeason_47 : decode cX1_goSeason 47 = .ok (.iinc 3 1, 3) := by decide +kernel
theorem dX1_goSeason_50 : decode cX1_goSeason 50 = .ok (.goto (-34), 3) := by decide +kernel
theorem dX1_goSeason_53 : decode cX1_goSeason 53 = .ok (.aload_n 0, 1) := by decide +kernel
theorem dX1_goSeason_54 : decode cX1_goSeason 54 = .ok (.dup, 1) := by decide +kernel
theorem dX1_goSeason_55 : decode cX1_goSeason 55 = .ok (.getfield 45, 3) := by decide +kernel
theorem dX1_goSeason_58 : decode cX1_goSeason 58 = .ok (.iconst 1, 1) := by decide +kernel
theorem dX1_goSeason_59 : decode cX1_goSeason 59 = .ok (.iadd, 1) := by decide +kernel
theorem dX1_goSeason_60 : decode cX1_goSeason 60 = .ok (.putfield 45, 3) := by decide +kernel
theorem dX1_goSeason_63 : decode cX1_goSeason 63 = .ok (.return_, 1) := by decide +kernel
theorem dX1_goStride_0 : decode cX1_goStride 0 = .ok (.aload_n 0, 1) := by decide +kernel
theorem dX1_goStride_1 : decode cX1_goStride 1 = .ok (.getfield 27, 3) := by decide +kernel
theorem dX1_goStride_4 : decode cX1_goStride 4 = .ok (.iload_n 1, 1) := by decide +kernel
theorem dX1_goStride_5 : decode cX1_goStride 5 = .ok (.iaload, 1) := by decide +kernel
theorem dX1_goStride_6 : decode cX1_goStride 6 = .ok (.istore 5, 2) := by decide +kernel
theorem dX1_goStride_8 : decode cX1_goStride 8 = .ok (.iload 4, 2) := by decide +kernel
theorem dX1_goStride_10 : decode cX1_goStride 10 = .ok (.iconst 1, 1) := by decide +kernel
theorem dX1_goStride_11 : decode cX1_goStride 11 = .ok (.iload 5, 2) := by decide +kernel
theorem dX1_goStride_13 : decode cX1_goStride 13 = .ok (.ishl, 1) := by decide +kernel
theorem dX1_goStride_14 : decode cX1_goStride 14 = .ok (.iconst (-1), 1) := by decide +kernel
theorem dX1_goStride_15 : decode cX1_goStride 15 = .ok (.ixor, 1) := by decide +kernel
theorem dX1_goStride_16 : decode cX1_goStride 16 = .ok (.iand, 1) := by decide +kernel
theorem dX1_goStride_17 : decode cX1_goStride 17 = .ok (.istore 6, 2) := by decide +kernel
theorem dX1_goStride_19 : decode cX1_goStride 19 = .ok (.iload_n 3, 1) := by decide +kernel
theorem dX1_goStride_20 : decode cX1_goStride 20 = .ok (.iload 6, 2) := by decide +kernel
theorem dX1_goStride_22 : decode cX1_goStride 22 = .ok (.ior, 1) := by decide +kernel
theorem dX1_goStride_23 : decode cX1_goStride 23 = .ok (.istore 7, 2) := by decide +kernel
theorem dX1_goStride_25 : decode cX1_goStride 25 = .ok (.iconst 0, 1) := by decide +kernel
theorem dX1_goStride_26 : decode cX1_goStride 26 = .ok (.istore 8, 2) := by decide +kernel
theorem dX1_goStride_28 : decode cX1_goStride 28 = .ok (.iload 8, 2) := by decide +kernel
theorem dX1_goStride_30 : decode cX1_goStride 30 = .ok (.iload_n 2, 1) := by decide +kernel
theorem dX1_goStride_31 : decode cX1_goStride 31 = .ok (.if_icmp .ge 29, 3) := by decide +kernel
theorem dX1_goStride_34 : decode cX1_goStride 34 = .ok (.iload 7, 2) := by decide +kernel
theorem dX1_goStride_36 : decode cX1_goStride 36 = .ok (.iload 5, 2) := by decide +kernel
theorem dX1_goStride_38 : decode cX1_goStride 38 = .ok (.invokestatic 65, 3) := by decide +kernel
theorem dX1_goStride_41 : decode cX1_goStride 41 = .ok (.invokestatic 108, 3) := by decide +kernel
theorem dX1_goStride_44 : decode cX1_goStride 44 = .ok (.ifCond .ne 16, 3) := by decide +kernel
theorem dX1_goStride_47 : decode cX1_goStride 47 = .ok (.iload 5, 2) := by decide +kernel
theorem dX1_goStride_49 : decode cX1_goStride 49 = .ok (.invokestatic 65, 3) := by decide +kernel
theorem dX1_goStride_52 : decode cX1_goStride 52 = .ok (.istore 5, 2) := by decide +kernel
theorem dX1_goStride_54 : decode cX1_goStride 54 = .ok (.iinc 8 1, 3) := by decide +kernel
theorem dX1_goStride_57 : decode cX1_goStride 57 = .ok (.goto (-29), 3) := by decide +kernel
theorem dX1_goStride_60 : decode cX1_goStride 60 = .ok (.aload_n 0, 1) := by decide +kernel
theorem dX1_goStride_61 : decode cX1_goStride 61 = .ok (.getfield 27, 3) := by decide +kernel
theorem dX1_goStride_64 : decode cX1_goStride 64 = .ok (.iload_n 1, 1) := by decide +kernel
theorem dX1_goStride_65 : decode cX1_goStride 65 = .ok (.iload 5, 2) := by decide +kernel
theorem dX1_goStride_67 : decode cX1_goStride 67 = .ok (.iastore, 1) := by decide +kernel
theorem dX1_goStride_68 : decode cX1_goStride 68 = .ok (.aload_n 0, 1) := by decide +kernel
theorem dX1_goStride_69 : decode cX1_goStride 69 = .ok (.getfield 33, 3) := by decide +kernel
theorem dX1_goStride_72 : decode cX1_goStride 72 = .ok (.iload_n 1, 1) := by decide +kernel
theorem dX1_goStride_73 : decode cX1_goStride 73 = .ok (.dup2, 1) := by decide +kernel
theorem dX1_goStride_74 : decode cX1_goStride 74 = .ok (.iaload, 1) := by decide +kernel
theorem dX1_goStride_75 : decode cX1_goStride 75 = .ok (.iload 8, 2) := by decide +kernel
theorem dX1_goStride_77 : decode cX1_goStride 77 = .ok (.iadd, 1) := by decide +kernel
theorem dX1_goStride_78 : decode cX1_goStride 78 = .ok (.iastore, 1) := by decide +kernel
theorem dX1_goStride_79 : decode cX1_goStride 79 = .ok (.iload 8, 2) := by decide +kernel
theorem dX1_goStride_81 : decode cX1_goStride 81 = .ok (.iload_n 2, 1) := by decide +kernel
theorem dX1_goStride_82 : decode cX1_goStride 82 = .ok (.if_icmp .ge 13, 3) := by decide +kernel
theorem dX1_goStride_85 : decode cX1_goStride 85 = .ok (.aload_n 0, 1) := by decide +kernel
theorem dX1_goStride_86 : decode cX1_goStride 86 = .ok (.getfield 36, 3) := by decide +kernel
theorem dX1_goStride_89 : decode cX1_goStride 89 = .ok (.iload_n 1, 1) := by decide +kernel
theorem dX1_goStride_90 : decode cX1_goStride 90 = .ok (.dup2, 1) := by decide +kernel
theorem dX1_goStride_91 : decode cX1_goStride 91 = .ok (.iaload, 1) := by decide +kernel
theorem dX1_goStride_92 : decode cX1_goStride 92 = .ok (.iconst 1, 1) := by decide +kernel
theorem dX1_goStride_93 : decode cX1_goStride 93 = .ok (.iadd, 1) := by decide +kernel
theorem dX1_goStride_94 : decode cX1_goStride 94 = .ok (.iastore, 1) := by decide +kernel
theorem dX1_goStride_95 : decode cX1_goStride 95 = .ok (.iload 6, 2) := by decide +kernel
theorem dX1_goStride_97 : decode cX1_goStride 97 = .ok (.iconst 1, 1) := by decide +kernel
theorem dX1_goStride_98 : decode cX1_goStride 98 = .ok (.iload 5, 2) := by decide +kernel
theorem dX1_goStride_100 : decode cX1_goStride 100 = .ok (.ishl, 1) := by decide +kernel
theorem dX1_goStride_101 : decode cX1_goStride 101 = .ok (.ior, 1) := by decide +kernel
theorem dX1_goStride_102 : decode cX1_goStride 102 = .ok (.ireturn, 1) := by decide +kernel
theorem dX1_shutCells_0 : decode cX1_shutCells 0 = .ok (.iconst 0, 1) := by decide +kernel
theorem dX1_shutCells_1 : decode cX1_shutCells 1 = .ok (.istore_n 1, 1) := by decide +kernel
theorem dX1_shutCells_2 : decode cX1_shutCells 2 = .ok (.iconst 0, 1) := by decide +kernel
theorem dX1_shutCells_3 : decode cX1_shutCells 3 = .ok (.istore_n 2, 1) := by decide +kernel
theorem dX1_shutCells_4 : decode cX1_shutCells 4 = .ok (.iload_n 2, 1) := by decide +kernel
theorem dX1_shutCells_5 : decode cX1_shutCells 5 = .ok (.bipush 24, 2) := by decide +kernel
theorem dX1_shutCells_7 : decode cX1_shutCells 7 = .ok (.if_icmp .ge 23, 3) := by decide +kernel
theorem dX1_shutCells_10 : decode cX1_shutCells 10 = .ok (.aload_n 0, 1) := by decide +kernel
theorem dX1_shutCells_11 : decode cX1_shutCells 11 = .ok (.iload_n 2, 1) := by decide +kernel
theorem dX1_shutCells_12 : decode cX1_shutCells 12 = .ok (.invokevirtual 68, 3) := by decide +kernel
theorem dX1_shutCells_15 : decode cX1_shutCells 15 = .ok (.ifCond .ne 9, 3) := by decide +kernel
theorem dX1_shutCells_18 : decode cX1_shutCells 18 = .ok (.iload_n 1, 1) := by decide +kernel
theorem dX1_shutCells_19 : decode cX1_shutCells 19 = .ok (.iconst 1, 1) := by decide +kernel
theorem dX1_shutCells_20 : decode cX1_shutCells 20 = .ok (.iload_n 2, 1) := by decide +kernel
theorem dX1_shutCells_21 : decode cX1_shutCells 21 = .ok (.ishl, 1) := by decide +kernel
theorem dX1_shutCells_22 : decode cX1_shutCells 22 = .ok (.ior, 1) := by decide +kernel
theorem dX1_shutCells_23 : decode cX1_shutCells 23 = .ok (.istore_n 1, 1) := by decide +kernel
theorem dX1_shutCells_24 : decode cX1_shutCells 24 = .ok (.iinc 2 1, 3) := by decide +kernel
theorem dX1_shutCells_27 : decode cX1_shutCells 27 = .ok (.goto (-23), 3) := by decide +kernel
theorem dX1_shutCells_30 : decode cX1_shutCells 30 = .ok (.iload_n 1, 1) := by decide +kernel
theorem dX1_shutCells_31 : decode cX1_shutCells 31 = .ok (.ireturn, 1) := by decide +kernel
theorem dX1_takenCells_0 : decode cX1_takenCells 0 = .ok (.iconst 0, 1) := by decide +kernel
theorem dX1_takenCells_1 : decode cX1_takenCells 1 = .ok (.istore_n 1, 1) := by decide +kernel
theorem dX1_takenCells_2 : decode cX1_takenCells 2 = .ok (.iconst 0, 1) := by decide +kernel
theorem dX1_takenCells_3 : decode cX1_takenCells 3 = .ok (.istore_n 2, 1) := by decide +kernel
theorem dX1_takenCells_4 : decode cX1_takenCells 4 = .ok (.iload_n 2, 1) := by decide +kernel
theorem dX1_takenCells_5 : decode cX1_takenCells 5 = .ok (.aload_n 0, 1) := by decide +kernel
theorem dX1_takenCells_6 : decode cX1_takenCells 6 = .ok (.getfield 49, 3) := by decide +kernel
theorem dX1_takenCells_9 : decode cX1_takenCells 9 = .ok (.if_icmp .ge 20, 3) := by decide +kernel
theorem dX1_takenCells_12 : decode cX1_takenCells 12 = .ok (.iload_n 1, 1) := by decide +kernel
theorem dX1_takenCells_13 : decode cX1_takenCells 13 = .ok (.iconst 1, 1) := by decide +kernel
theorem dX1_takenCells_14 : decode cX1_takenCells 14 = .ok (.aload_n 0, 1) := by decide +kernel
theorem dX1_takenCells_15 : decode cX1_takenCells 15 = .ok (.getfield 27, 3) := by decide +kernel
theorem dX1_takenCells_18 : decode cX1_takenCells 18 = .ok (.iload_n 2, 1) := by decide +kernel
theorem dX1_takenCells_19 : decode cX1_takenCells 19 = .ok (.iaload, 1) := by decide +kernel
theorem dX1_takenCells_20 : decode cX1_takenCells 20 = .ok (.ishl, 1) := by decide +kernel
theorem dX1_takenCells_21 : decode cX1_takenCells 21 = .ok (.ior, 1) := by decide +kernel
theorem dX1_takenCells_22 : decode cX1_takenCells 22 = .ok (.istore_n 1, 1) := by decide +kernel
theorem dX1_takenCells_23 : decode cX1_takenCells 23 = .ok (.iinc 2 1, 3) := by decide +kernel
theorem dX1_takenCells_26 : decode cX1_takenCells 26 = .ok (.goto (-22), 3) := by decide +kernel
theorem dX1_takenCells_29 : decode cX1_takenCells 29 = .ok (.iload_n 1, 1) := by decide +kernel
theorem dX1_takenCells_30 : decode cX1_takenCells 30 = .ok (.ireturn, 1) := by decide +kernel
theorem dX1_openPasses_0 : decode cX1_openPasses 0 = .ok (.iconst 0, 1) := by decide +kernel
theorem dX1_openPasses_1 : decode cX1_openPasses 1 = .ok (.istore_n 1, 1) := by decide +kernel
theorem dX1_openPasses_2 : decode cX1_openPasses 2 = .ok (.iconst 0, 1) := by decide +kernel
theorem dX1_openPasses_3 : decode cX1_openPasses 3 = .ok (.istore_n 2, 1) := by decide +kernel
theorem dX1_openPasses_4 : decode cX1_openPasses 4 = .ok (.iload_n 2, 1) := by decide +kernel
theorem dX1_openPasses_5 : decode cX1_openPasses 5 = .ok (.bipush 24, 2) := by decide +kernel
theorem dX1_openPasses_7 : decode cX1_openPasses 7 = .ok (.if_icmp .ge 31, 3) := by decide +kernel
theorem dX1_openPasses_10 : decode cX1_openPasses 10 = .ok (.aload_n 0, 1) := by decide +kernel
theorem dX1_openPasses_11 : decode cX1_openPasses 11 = .ok (.iload_n 2, 1) := by decide +kernel
theorem dX1_openPasses_12 : decode cX1_openPasses 12 = .ok (.invokevirtual 112, 3) := by decide +kernel
theorem dX1_openPasses_15 : decode cX1_openPasses 15 = .ok (.ifCond .eq 17, 3) := by decide +kernel
theorem dX1_openPasses_18 : decode cX1_openPasses 18 = .ok (.aload_n 0, 1) := by decide +kernel
theorem dX1_openPasses_19 : decode cX1_openPasses 19 = .ok (.iload_n 2, 1) := by decide +kernel
theorem dX1_openPasses_20 : decode cX1_openPasses 20 = .ok (.invokevirtual 68, 3) := by decide +kernel
theorem dX1_openPasses_23 : decode cX1_openPasses 23 = .ok (.ifCond .eq 9, 3) := by decide +kernel
theorem dX1_openPasses_26 : decode cX1_openPasses 26 = .ok (.iload_n 1, 1) := by decide +kernel
theorem dX1_openPasses_27 : decode cX1_openPasses 27 = .ok (.iconst 1, 1) := by decide +kernel
theorem dX1_openPasses_28 : decode cX1_openPasses 28 = .ok (.iload_n 2, 1) := by decide +kernel
theorem dX1_openPasses_29 : decode cX1_openPasses 29 = .ok (.ishl, 1) := by decide +kernel
theorem dX1_openPasses_30 : decode cX1_openPasses 30 = .ok (.ior, 1) := by decide +kernel
theorem dX1_openPasses_31 : decode cX1_openPasses 31 = .ok (.istore_n 1, 1) := by decide +kernel
theorem dX1_openPasses_32 : decode cX1_openPasses 32 = .ok (.iinc 2 1, 3) := by decide +kernel
theorem dX1_openPasses_35 : decode cX1_openPasses 35 = .ok (.goto (-31), 3) := by decide +kernel
theorem dX1_openPasses_38 : decode cX1_openPasses 38 = .ok (.iload_n 1, 1) := by decide +kernel
theorem dX1_openPasses_39 : decode cX1_openPasses 39 = .ok (.ireturn, 1) := by decide +kernel
theorem dX1_litVillages_0 : decode cX1_litVillages 0 = .ok (.iconst 0, 1) := by decide +kernel
theorem dX1_litVillages_1 : decode cX1_litVillages 1 = .ok (.istore_n 1, 1) := by decide +kernel
theorem dX1_litVillages_2 : decode cX1_litVillages 2 = .ok (.iconst 0, 1) := by decide +kernel
theorem dX1_litVillages_3 : decode cX1_litVillages 3 = .ok (.istore_n 2, 1) := by decide +kernel
theorem dX1_litVillages_4 : decode cX1_litVillages 4 = .ok (.iload_n 2, 1) := by decide +kernel
theorem dX1_litVillages_5 : decode cX1_litVillages 5 = .ok (.aload_n 0, 1) := by decide +kernel
theorem dX1_litVillages_6 : decode cX1_litVillages 6 = .ok (.getfield 52, 3) := by decide +kernel
theorem dX1_litVillages_9 : decode cX1_litVillages 9 = .ok (.if_icmp .ge 23, 3) := by decide +kernel
theorem dX1_litVillages_12 : decode cX1_litVillages 12 = .ok (.aload_n 0, 1) := by decide +kernel
theorem dX1_litVillages_13 : decode cX1_litVillages 13 = .ok (.iload_n 2, 1) := by decide +kernel
theorem dX1_litVillages_14 : decode cX1_litVillages 14 = .ok (.invokevirtual 115, 3) := by decide +kernel
theorem dX1_litVillages_17 : decode cX1_litVillages 17 = .ok (.ifCond .eq 9, 3) := by decide +kernel
theorem dX1_litVillages_20 : decode cX1_litVillages 20 = .ok (.iload_n 1, 1) := by decide +kernel
theorem dX1_litVillages_21 : decode cX1_litVillages 21 = .ok (.iconst 1, 1) := by decide +kernel
theorem dX1_litVillages_22 : decode cX1_litVillages 22 = .ok (.iload_n 2, 1) := by decide +kernel
theorem dX1_litVillages_23 : decode cX1_litVillages 23 = .ok (.ishl, 1) := by decide +kernel
theorem dX1_litVillages_24 : decode cX1_litVillages 24 = .ok (.ior, 1) := by decide +kernel
theorem dX1_litVillages_25 : decode cX1_litVillages 25 = .ok (.istore_n 1, 1) := by decide +kernel
theorem dX1_litVillages_26 : decode cX1_litVillages 26 = .ok (.iinc 2 1, 3) := by decide +kernel
theorem dX1_litVillages_29 : decode cX1_litVillages 29 = .ok (.goto (-25), 3) := by decide +kernel
theorem dX1_litVillages_32 : decode cX1_litVillages 32 = .ok (.iload_n 1, 1) := by decide +kernel
theorem dX1_litVillages_33 : decode cX1_litVillages 33 = .ok (.ireturn, 1) := by decide +kernel
theorem dX1_allPasses_0 : decode cX1_allPasses 0 = .ok (.iconst 0, 1) := by decide +kernel
theorem dX1_allPasses_1 : decode cX1_allPasses 1 = .ok (.istore_n 1, 1) := by decide +kernel
theorem dX1_allPasses_2 : decode cX1_allPasses 2 = .ok (.iconst 0, 1) := by decide +kernel
theorem dX1_allPasses_3 : decode cX1_allPasses 3 = .ok (.istore_n 2, 1) := by decide +kernel
theorem dX1_allPasses_4 : decode cX1_allPasses 4 = .ok (.iload_n 2, 1) := by decide +kernel
theorem dX1_allPasses_5 : decode cX1_allPasses 5 = .ok (.bipush 24, 2) := by decide +kernel
theorem dX1_allPasses_7 : decode cX1_allPasses 7 = .ok (.if_icmp .ge 20, 3) := by decide +kernel
theorem dX1_allPasses_10 : decode cX1_allPasses 10 = .ok (.aload_n 0, 1) := by decide +kernel
theorem dX1_allPasses_11 : decode cX1_allPasses 11 = .ok (.iload_n 2, 1) := by decide +kernel
theorem dX1_allPasses_12 : decode cX1_allPasses 12 = .ok (.invokevirtual 112, 3) := by decide +kernel
theorem dX1_allPasses_15 : decode cX1_allPasses 15 = .ok (.ifCond .eq 6, 3) := by decide +kernel
theorem dX1_allPasses_18 : decode cX1_allPasses 18 = .ok (.iinc 1 1, 3) := by decide +kernel
theorem dX1_allPasses_21 : decode cX1_allPasses 21 = .ok (.iinc 2 1, 3) := by decide +kernel
theorem dX1_allPasses_24 : decode cX1_allPasses 24 = .ok (.goto (-20), 3) := by decide +kernel
theorem dX1_allPasses_27 : decode cX1_allPasses 27 = .ok (.iload_n 1, 1) := by decide +kernel
theorem dX1_allPasses_28 : decode cX1_allPasses 28 = .ok (.ireturn, 1) := by decide +kernel
theorem dX1_allSteps_0 : decode cX1_allSteps 0 = .ok (.aload_n 0, 1) := by decide +kernel
theorem dX1_allSteps_1 : decode cX1_allSteps 1 = .ok (.aload_n 0, 1) := by decide +kernel
theorem dX1_allSteps_2 : decode cX1_allSteps 2 = .ok (.getfield 33, 3) := by decide +kernel
theorem dX1_allSteps_5 : decode cX1_allSteps 5 = .ok (.invokevirtual 118, 3) := by decide +kernel
theorem dX1_allSteps_8 : decode cX1_allSteps 8 = .ok (.ireturn, 1) := by decide +kernel
theorem dX1_allWaits_0 : decode cX1_allWaits 0 = .ok (.aload_n 0, 1) := by decide +kernel
theorem dX1_allWaits_1 : decode cX1_allWaits 1 = .ok (.aload_n 0, 1) := by decide +kernel
theorem dX1_allWaits_2 : decode cX1_allWaits 2 = .ok (.getfield 36, 3) := by decide +kernel
theorem dX1_allWaits_5 : decode cX1_allWaits 5 = .ok (.invokevirtual 118, 3) := by decide +kernel
theorem dX1_allWaits_8 : decode cX1_allWaits 8 = .ok (.ireturn, 1) := by decide +kernel
theorem dX1_allHaste_0 : decode cX1_allHaste 0 = .ok (.aload_n 0, 1) := by decide +kernel
theorem dX1_allHaste_1 : decode cX1_allHaste 1 = .ok (.aload_n 0, 1) := by decide +kernel
theorem dX1_allHaste_2 : decode cX1_allHaste 2 = .ok (.getfield 30, 3) := by decide +kernel
theorem dX1_allHaste_5 : decode cX1_allHaste 5 = .ok (.invokevirtual 118, 3) := by decide +kernel
theorem dX1_allHaste_8 : decode cX1_allHaste 8 = .ok (.ireturn, 1) := by decide +kernel
theorem dX1_sum_0 : decode cX1_sum 0 = .ok (.iconst 0, 1) := by decide +kernel
theorem dX1_sum_1 : decode cX1_sum 1 = .ok (.istore_n 2, 1) := by decide +kernel
theorem dX1_sum_2 : decode cX1_sum 2 = .ok (.iconst 0, 1) := by decide +kernel
theorem dX1_sum_3 : decode cX1_sum 3 = .ok (.istore_n 3, 1) := by decide +kernel
theorem dX1_sum_4 : decode cX1_sum 4 = .ok (.iload_n 3, 1) := by decide +kernel
theorem dX1_sum_5 : decode cX1_sum 5 = .ok (.aload_n 0, 1) := by decide +kernel
theorem dX1_sum_6 : decode cX1_sum 6 = .ok (.getfield 49, 3) := by decide +kernel
theorem dX1_sum_9 : decode cX1_sum 9 = .ok (.if_icmp .ge 15, 3) := by decide +kernel
theorem dX1_sum_12 : decode cX1_sum 12 = .ok (.iload_n 2, 1) := by decide +kernel
theorem dX1_sum_13 : decode cX1_sum 13 = .ok (.aload_n 1, 1) := by decide +kernel
theorem dX1_sum_14 : decode cX1_sum 14 = .ok (.iload_n 3, 1) := by decide +kernel
theorem dX1_sum_15 : decode cX1_sum 15 = .ok (.iaload, 1) := by decide +kernel
theorem dX1_sum_16 : decode cX1_sum 16 = .ok (.iadd, 1) := by decide +kernel
theorem dX1_sum_17 : decode cX1_sum 17 = .ok (.istore_n 2, 1) := by decide +kernel
theorem dX1_sum_18 : decode cX1_sum 18 = .ok (.iinc 3 1, 3) := by decide +kernel
theorem dX1_sum_21 : decode cX1_sum 21 = .ok (.goto (-17), 3) := by decide +kernel
theorem dX1_sum_24 : decode cX1_sum 24 = .ok (.iload_n 2, 1) := by decide +kernel
theorem dX1_sum_25 : decode cX1_sum 25 = .ok (.ireturn, 1) := by decide +kernel
theorem dX2_init_0 : decode cX2_init 0 = .ok (.aload_n 0, 1) := by decide +kernel
theorem dX2_init_1 : decode cX2_init 1 = .ok (.invokespecial 3, 3) := by decide +kernel
theorem dX2_init_4 : decode cX2_init 4 = .ok (.aload_n 0, 1) := by decide +kernel
theorem dX2_init_5 : decode cX2_init 5 = .ok (.bipush 40, 2) := by decide +kernel
theorem dX2_init_7 : decode cX2_init 7 = .ok (.newarray .long, 2) := by decide +kernel
theorem dX2_init_9 : decode cX2_init 9 = .ok (.putfield 9, 3) := by decide +kernel
theorem dX2_init_12 : decode cX2_init 12 = .ok (.return_, 1) := by decide +kernel
theorem dX2_isMissing_0 : decode cX2_isMissing 0 = .ok (.aload_n 0, 1) := by decide +kernel
theorem dX2_isMissing_1 : decode cX2_isMissing 1 = .ok (.getfield 15, 3) := by decide +kernel
theorem dX2_isMissing_4 : decode cX2_isMissing 4 = .ok (.ifCond .ne 7, 3) := by decide +kernel
theorem dX2_isMissing_7 : decode cX2_isMissing 7 = .ok (.iconst 1, 1) := by decide +kernel
theorem dX2_isMissing_8 : decode cX2_isMissing 8 = .ok (.goto 4, 3) := by decide +kernel
theorem dX2_isMissing_11 : decode cX2_isMissing 11 = .ok (.iconst 0, 1) := by decide +kernel
theorem dX2_isMissing_12 : decode cX2_isMissing 12 = .ok (.ireturn, 1) := by decide +kernel
theorem dX2_renew_0 : decode cX2_renew 0 = .ok (.aload_n 0, 1) := by decide +kernel
theorem dX2_renew_1 : decode cX2_renew 1 = .ok (.iload_n 1, 1) := by decide +kernel
theorem dX2_renew_2 : decode cX2_renew 2 = .ok (.putfield 15, 3) := by decide +kernel
theorem dX2_renew_5 : decode cX2_renew 5 = .ok (.aload_n 0, 1) := by decide +kernel
theorem dX2_renew_6 : decode cX2_renew 6 = .ok (.iload_n 1, 1) := by decide +kernel
theorem dX2_renew_7 : decode cX2_renew 7 = .ok (.ifCond .ne 7, 3) := by decide +kernel
theorem dX2_renew_10 : decode cX2_renew 10 = .ok (.iconst 0, 1) := by decide +kernel
theorem dX2_renew_11 : decode cX2_renew 11 = .ok (.goto 4, 3) := by decide +kernel
theorem dX2_renew_14 : decode cX2_renew 14 = .ok (.iload_n 2, 1) := by decide +kernel
theorem dX2_renew_15 : decode cX2_renew 15 = .ok (.putfield 19, 3) := by decide +kernel
theorem dX2_renew_18 : decode cX2_renew 18 = .ok (.iconst 0, 1) := by decide +kernel
theorem dX2_renew_19 : decode cX2_renew 19 = .ok (.istore_n 3, 1) := by decide +kernel
theorem dX2_renew_20 : decode cX2_renew 20 = .ok (.iload_n 3, 1) := by decide +kernel
theorem dX2_renew_21 : decode cX2_renew 21 = .ok (.bipush 40, 2) := by decide +kernel
theorem dX2_renew_23 : decode cX2_renew 23 = .ok (.if_icmp .ge 16, 3) := by decide +kernel
theorem dX2_renew_26 : decode cX2_renew 26 = .ok (.aload_n 0, 1) := by decide +kernel
theorem dX2_renew_27 : decode cX2_renew 27 = .ok (.getfield 9, 3) := by decide +kernel
theorem dX2_renew_30 : decode cX2_renew 30 = .ok (.iload_n 3, 1) := by decide +kernel
theorem dX2_renew_31 : decode cX2_renew 31 = .ok (.lconst 0, 1) := by decide +kernel
theorem dX2_renew_32 : decode cX2_renew 32 = .ok (.lastore, 1) := by decide +kernel
theorem dX2_renew_33 : decode cX2_renew 33 = .ok (.iinc 3 1, 3) := by decide +kernel
theorem dX2_renew_36 : decode cX2_renew 36 = .ok (.goto (-16), 3) := by decide +kernel
theorem dX2_renew_39 : decode cX2_renew 39 = .ok (.return_, 1) := by decide +kernel
theorem dX2_put_0 : decode cX2_put 0 = .ok (.aload_n 0, 1) := by decide +kernel
theorem dX2_put_1 : decode cX2_put 1 = .ok (.getfield 15, 3) := by decide +kernel
theorem dX2_put_4 : decode cX2_put 4 = .ok (.lookupswitch 54 #[(8, 28), (16, 41)], 28) := by decide +kernel
theorem dX2_put_32 : decode cX2_put 32 = .ok (.aload_n 0, 1) := by decide +kernel
theorem dX2_put_33 : decode cX2_put 33 = .ok (.getfield 9, 3) := by decide +kernel
theorem dX2_put_36 : decode cX2_put 36 = .ok (.iload_n 1, 1) := by decide +kernel
theorem dX2_put_37 : decode cX2_put 37 = .ok (.lload_n 2, 1) := by decide +kernel
theorem dX2_put_38 : decode cX2_put 38 = .ok (.l2i, 1) := by decide +kernel
theorem dX2_put_39 : decode cX2_put 39 = .ok (.i2b, 1) := by decide +kernel
theorem dX2_put_40 : decode cX2_put 40 = .ok (.i2l, 1) := by decide +kernel
theorem dX2_put_41 : decode cX2_put 41 = .ok (.lastore, 1) := by decide +kernel
theorem dX2_put_42 : decode cX2_put 42 = .ok (.goto 23, 3) := by decide +kernel
theorem dX2_put_45 : decode cX2_put 45 = .ok (.aload_n 0, 1) := by decide +kernel
theorem dX2_put_46 : decode cX2_put 46 = .ok (.getfield 9, 3) := by decide +kernel
theorem dX2_put_49 : decode cX2_put 49 = .ok (.iload_n 1, 1) := by decide +kernel
theorem dX2_put_50 : decode cX2_put 50 = .ok (.lload_n 2, 1) := by decide +kernel
theorem dX2_put_51 : decode cX2_put 51 = .ok (.l2i, 1) := by decide +kernel
theorem dX2_put_52 : decode cX2_put 52 = .ok (.i2s, 1) := by decide +kernel
theorem dX2_put_53 : decode cX2_put 53 = .ok (.i2l, 1) := by decide +kernel
theorem dX2_put_54 : decode cX2_put 54 = .ok (.lastore, 1) := by decide +kernel
theorem dX2_put_55 : decode cX2_put 55 = .ok (.goto 10, 3) := by decide +kernel
theorem dX2_put_58 : decode cX2_put 58 = .ok (.aload_n 0, 1) := by decide +kernel
theorem dX2_put_59 : decode cX2_put 59 = .ok (.getfield 9, 3) := by decide +kernel
theorem dX2_put_62 : decode cX2_put 62 = .ok (.iload_n 1, 1) := by decide +kernel
theorem dX2_put_63 : decode cX2_put 63 = .ok (.lload_n 2, 1) := by decide +kernel
theorem dX2_put_64 : decode cX2_put 64 = .ok (.lastore, 1) := by decide +kernel
theorem dX2_put_65 : decode cX2_put 65 = .ok (.return_, 1) := by decide +kernel
theorem dX2_holds_0 : decode cX2_holds 0 = .ok (.iload_n 1, 1) := by decide +kernel
theorem dX2_holds_1 : decode cX2_holds 1 = .ok (.ifCond .lt 29, 3) := by decide +kernel
theorem dX2_holds_4 : decode cX2_holds 4 = .ok (.iload_n 2, 1) := by decide +kernel
theorem dX2_holds_5 : decode cX2_holds 5 = .ok (.ifCond .lt 25, 3) := by decide +kernel
theorem dX2_holds_8 : decode cX2_holds 8 = .ok (.iload_n 2, 1) := by decide +kernel
theorem dX2_holds_9 : decode cX2_holds 9 = .ok (.aload_n 0, 1) := by decide +kernel
theorem dX2_holds_10 : decode cX2_holds 10 = .ok (.getfield 19, 3) := by decide +kernel
theorem dX2_holds_13 : decode cX2_holds 13 = .ok (.if_icmp .gt 17, 3) := by decide +kernel
theorem dX2_holds_16 : decode cX2_holds 16 = .ok (.iload_n 1, 1) := by decide +kernel
theorem dX2_holds_17 : decode cX2_holds 17 = .ok (.aload_n 0, 1) := by decide +kernel
theorem dX2_holds_18 : decode cX2_holds 18 = .ok (.getfield 19, 3) := by decide +kernel
theorem dX2_holds_21 : decode cX2_holds 21 = .ok (.iload_n 2, 1) := by decide +kernel
theorem dX2_holds_22 : decode cX2_holds 22 = .ok (.isub, 1) := by decide +kernel
theorem dX2_holds_23 : decode cX2_holds 23 = .ok (.if_icmp .gt 7, 3) := by decide +kernel
theorem dX2_holds_26 : decode cX2_holds 26 = .ok (.iconst 1, 1) := by decide +kernel
theorem dX2_holds_27 : decode cX2_holds 27 = .ok (.goto 4, 3) := by decide +kernel
theorem dX2_holds_30 : decode cX2_holds 30 = .ok (.iconst 0, 1) := by decide +kernel
theorem dX2_holds_31 : decode cX2_holds 31 = .ok (.ireturn, 1) := by decide +kernel
theorem dX3_init_0 : decode cX3_init 0 = .ok (.aload_n 0, 1) := by decide +kernel
theorem dX3_init_1 : decode cX3_init 1 = .ok (.invokespecial 3, 3) := by decide +kernel
theorem dX3_init_4 : decode cX3_init 4 = .ok (.aload_n 0, 1) := by decide +kernel
theorem dX3_init_5 : decode cX3_init 5 = .ok (.bipush 120, 2) := by decide +kernel
theorem dX3_init_7 : decode cX3_init 7 = .ok (.newarray .int, 2) := by decide +kernel
theorem dX3_init_9 : decode cX3_init 9 = .ok (.putfield 9, 3) := by decide +kernel
theorem dX3_init_12 : decode cX3_init 12 = .ok (.return_, 1) := by decide +kernel
theorem dX3_append_0 : decode cX3_append 0 = .ok (.iload_n 2, 1) := by decide +kernel
theorem dX3_append_1 : decode cX3_append 1 = .ok (.iconst 1, 1) := by decide +kernel
theorem dX3_append_2 : decode cX3_append 2 = .ok (.isub, 1) := by decide +kernel
theorem dX3_append_3 : decode cX3_append 3 = .ok (.istore_n 3, 1) := by decide +kernel
theorem dX3_append_4 : decode cX3_append 4 = .ok (.iload_n 3, 1) := by decide +kernel
theorem dX3_append_5 : decode cX3_append 5 = .ok (.ifCond .lt 47, 3) := by decide +kernel
theorem dX3_append_8 : decode cX3_append 8 = .ok (.aload_n 0, 1) := by decide +kernel
theorem dX3_append_9 : decode cX3_append 9 = .ok (.getfield 15, 3) := by decide +kernel
theorem dX3_append_12 : decode cX3_append 12 = .ok (.bipush 120, 2) := by decide +kernel
theorem dX3_append_14 : decode cX3_append 14 = .ok (.if_icmp .ge 38, 3) := by decide +kernel
theorem dX3_append_17 : decode cX3_append 17 = .ok (.aload_n 0, 1) := by decide +kernel
theorem dX3_append_18 : decode cX3_append 18 = .ok (.getfield 9, 3) := by decide +kernel
theorem dX3_append_21 : decode cX3_append 21 = .ok (.aload_n 0, 1) := by decide +kernel
theorem dX3_append_22 : decode cX3_append 22 = .ok (.getfield 15, 3) := by decide +kernel
theorem dX3_append_25 : decode cX3_append 25 = .ok (.iload_n 1, 1) := by decide +kernel
theorem dX3_append_26 : decode cX3_append 26 = .ok (.bipush 8, 2) := by decide +kernel
theorem dX3_append_28 : decode cX3_append 28 = .ok (.iload_n 3, 1) := by decide +kernel
theorem dX3_append_29 : decode cX3_append 29 = .ok (.imul, 1) := by decide +kernel
theorem dX3_append_30 : decode cX3_append 30 = .ok (.ishr, 1) := by decide +kernel
theorem dX3_append_31 : decode cX3_append 31 = .ok (.sipush 255, 3) := by decide +kernel
theorem dX3_append_34 : decode cX3_append 34 = .ok (.iand, 1) := by decide +kernel
theorem dX3_append_35 : decode cX3_append 35 = .ok (.iastore, 1) := by decide +kernel
theorem dX3_append_36 : decode cX3_append 36 = .ok (.aload_n 0, 1) := by decide +kernel
theorem dX3_append_37 : decode cX3_append 37 = .ok (.dup, 1) := by decide +kernel
theorem dX3_append_38 : decode cX3_append 38 = .ok (.getfield 15, 3) := by decide +kernel
theorem dX3_append_41 : decode cX3_append 41 = .ok (.iconst 1, 1) := by decide +kernel
theorem dX3_append_42 : decode cX3_append 42 = .ok (.iadd, 1) := by decide +kernel
theorem dX3_append_43 : decode cX3_append 43 = .ok (.putfield 15, 3) := by decide +kernel
theorem dX3_append_46 : decode cX3_append 46 = .ok (.iinc 3 (-1), 3) := by decide +kernel
theorem dX3_append_49 : decode cX3_append 49 = .ok (.goto (-45), 3) := by decide +kernel
theorem dX3_append_52 : decode cX3_append 52 = .ok (.return_, 1) := by decide +kernel
theorem dX3_tell_0 : decode cX3_tell 0 = .ok (.aload_n 0, 1) := by decide +kernel
theorem dX3_tell_1 : decode cX3_tell 1 = .ok (.iconst 0, 1) := by decide +kernel
theorem dX3_tell_2 : decode cX3_tell 2 = .ok (.putfield 19, 3) := by decide +kernel
theorem dX3_tell_5 : decode cX3_tell 5 = .ok (.aload_n 0, 1) := by decide +kernel
theorem dX3_tell_6 : decode cX3_tell 6 = .ok (.invokevirtual 22, 3) := by decide +kernel
theorem dX3_tell_9 : decode cX3_tell 9 = .ok (.iconst 1, 1) := by decide +kernel
theorem dX3_tell_10 : decode cX3_tell 10 = .ok (.istore_n 2, 1) := by decide +kernel
theorem dX3_tell_11 : decode cX3_tell 11 = .ok (.iload_n 2, 1) := by decide +kernel
theorem dX3_tell_12 : decode cX3_tell 12 = .ok (.bipush 120, 2) := by decide +kernel
theorem dX3_tell_14 : decode cX3_tell 14 = .ok (.if_icmp .gt 52, 3) := by decide +kernel
theorem dX3_tell_17 : decode cX3_tell 17 = .ok (.aload_n 0, 1) := by decide +kernel
theorem dX3_tell_18 : decode cX3_tell 18 = .ok (.aload_n 1, 1) := by decide +kernel
theorem dX3_tell_19 : decode cX3_tell 19 = .ok (.invokevirtual 25, 3) := by decide +kernel
theorem dX3_tell_22 : decode cX3_tell 22 = .ok (.ifCond .ne 10, 3) := by decide +kernel
theorem dX3_tell_25 : decode cX3_tell 25 = .ok (.iconst (-1), 1) := by decide +kernel
theorem dX3_tell_26 : decode cX3_tell 26 = .ok (.aload_n 0, 1) := by decide +kernel
theorem dX3_tell_27 : decode cX3_tell 27 = .ok (.getfield 29, 3) := by decide +kernel
theorem dX3_tell_30 : decode cX3_tell 30 = .ok (.isub, 1) := by decide +kernel
theorem dX3_tell_31 : decode cX3_tell 31 = .ok (.ireturn, 1) := by decide +kernel
theorem dX3_tell_32 : decode cX3_tell 32 = .ok (.aload_n 0, 1) := by decide +kernel
theorem dX3_tell_33 : decode cX3_tell 33 = .ok (.getfield 32, 3) := by decide +kernel
theorem dX3_tell_36 : decode cX3_tell 36 = .ok (.ifCond .ne 5, 3) := by decide +kernel
theorem dX3_tell_39 : decode cX3_tell 39 = .ok (.iload_n 2, 1) := by decide +kernel
theorem dX3_tell_40 : decode cX3_tell 40 = .ok (.ireturn, 1) := by decide +kernel
theorem dX3_tell_41 : decode cX3_tell 41 = .ok (.aload_n 0, 1) := by decide +kernel
theorem dX3_tell_42 : decode cX3_tell 42 = .ok (.getfield 32, 3) := by decide +kernel
theorem dX3_tell_45 : decode cX3_tell 45 = .ok (.iconst 3, 1) := by decide +kernel
theorem dX3_tell_46 : decode cX3_tell 46 = .ok (.if_icmp .eq 10, 3) := by decide +kernel
theorem dX3_tell_49 : decode cX3_tell 49 = .ok (.iconst (-1), 1) := by decide +kernel
theorem dX3_tell_50 : decode cX3_tell 50 = .ok (.aload_n 0, 1) := by decide +kernel
theorem dX3_tell_51 : decode cX3_tell 51 = .ok (.getfield 29, 3) := by decide +kernel
theorem dX3_tell_54 : decode cX3_tell 54 = .ok (.isub, 1) := by decide +kernel
theorem dX3_tell_55 : decode cX3_tell 55 = .ok (.ireturn, 1) := by decide +kernel
theorem dX3_tell_56 : decode cX3_tell 56 = .ok (.aload_n 0, 1) := by decide +kernel
theorem dX3_tell_57 : decode cX3_tell 57 = .ok (.invokevirtual 22, 3) := by decide +kernel
theorem dX3_tell_60 : decode cX3_tell 60 = .ok (.iinc 2 1, 3) := by decide +kernel
theorem dX3_tell_63 : decode cX3_tell 63 = .ok (.goto (-52), 3) := by decide +kernel
theorem dX3_tell_66 : decode cX3_tell 66 = .ok (.iconst (-1), 1) := by decide +kernel
theorem dX3_tell_67 : decode cX3_tell 67 = .ok (.aload_n 0, 1) := by decide +kernel
theorem dX3_tell_68 : decode cX3_tell 68 = .ok (.getfield 29, 3) := by decide +kernel
theorem dX3_tell_71 : decode cX3_tell 71 = .ok (.isub, 1) := by decide +kernel
theorem dX3_tell_72 : decode cX3_tell 72 = .ok (.ireturn, 1) := by decide +kernel
theorem dX3_takeItem_0 : decode cX3_takeItem 0 = .ok (.aload_n 0, 1) := by decide +kernel
theorem dX3_takeItem_1 : decode cX3_takeItem 1 = .ok (.ldc 35, 2) := by decide +kernel
theorem dX3_takeItem_3 : decode cX3_takeItem 3 = .ok (.invokevirtual 37, 3) := by decide +kernel
theorem dX3_takeItem_6 : decode cX3_takeItem 6 = .ok (.ifCond .eq 9, 3) := by decide +kernel
theorem dX3_takeItem_9 : decode cX3_takeItem 9 = .ok (.aload_n 0, 1) := by decide +kernel
theorem dX3_takeItem_10 : decode cX3_takeItem 10 = .ok (.aload_n 1, 1) := by decide +kernel
theorem dX3_takeItem_11 : decode cX3_takeItem 11 = .ok (.invokevirtual 41, 3) := by decide +kernel
theorem dX3_takeItem_14 : decode cX3_takeItem 14 = .ok (.ireturn, 1) := by decide +kernel
theorem dX3_takeItem_15 : decode cX3_takeItem 15 = .ok (.aload_n 0, 1) := by decide +kernel
theorem dX3_takeItem_16 : decode cX3_takeItem 16 = .ok (.ldc 44, 2) := by decide +kernel
theorem dX3_takeItem_18 : decode cX3_takeItem 18 = .ok (.invokevirtual 37, 3) := by decide +kernel
theorem dX3_takeItem_21 : decode cX3_takeItem 21 = .ok (.ifCond .eq 9, 3) := by decide +kernel
theorem dX3_takeItem_24 : decode cX3_takeItem 24 = .ok (.aload_n 0, 1) := by decide +kernel
theorem dX3_takeItem_25 : decode cX3_takeItem 25 = .ok (.aload_n 1, 1) := by decide +kernel
theorem dX3_takeItem_26 : decode cX3_takeItem 26 = .ok (.invokevirtual 46, 3) := by decide +kernel
theorem dX3_takeItem_29 : decode cX3_takeItem 29 = .ok (.ireturn, 1) := by decide +kernel
theorem dX3_takeItem_30 : decode cX3_takeItem 30 = .ok (.aload_n 0, 1) := by decide +kernel
theorem dX3_takeItem_31 : decode cX3_takeItem 31 = .ok (.ldc 49, 2) := by decide +kernel
theorem dX3_takeItem_33 : decode cX3_takeItem 33 = .ok (.invokevirtual 37, 3) := by decide +kernel
theorem dX3_takeItem_36 : decode cX3_takeItem 36 = .ok (.ifCond .eq 9, 3) := by decide +kernel
theorem dX3_takeItem_39 : decode cX3_takeItem 39 = .ok (.aload_n 0, 1) := by decide +kernel
theorem dX3_takeItem_40 : decode cX3_takeItem 40 = .ok (.aload_n 1, 1) := by decide +kernel
theorem dX3_takeItem_41 : decode cX3_takeItem 41 = .ok (.invokevirtual 51, 3) := by decide +kernel
theorem dX3_takeItem_44 : decode cX3_takeItem 44 = .ok (.ireturn, 1) := by decide +kernel
theorem dX3_takeItem_45 : decode cX3_takeItem 45 = .ok (.aload_n 0, 1) := by decide +kernel
theorem dX3_takeItem_46 : decode cX3_takeItem 46 = .ok (.ldc 54, 2) := by decide +kernel
theorem dX3_takeItem_48 : decode cX3_takeItem 48 = .ok (.invokevirtual 37, 3) := by decide +kernel
theorem dX3_takeItem_51 : decode cX3_takeItem 51 = .ok (.ifCond .eq 9, 3) := by decide +kernel
theorem dX3_takeItem_54 : decode cX3_takeItem 54 = .ok (.aload_n 0, 1) := by decide +kernel
theorem dX3_takeItem_55 : decode cX3_takeItem 55 = .ok (.aload_n 1, 1) := by decide +kernel
theorem dX3_takeItem_56 : decode cX3_takeItem 56 = .ok (.invokevirtual 56, 3) := by decide +kernel
theorem dX3_takeItem_59 : decode cX3_takeItem 59 = .ok (.ireturn, 1) := by decide +kernel
theorem dX3_takeItem_60 : decode cX3_takeItem 60 = .ok (.aload_n 0, 1) := by decide +kernel
theorem dX3_takeItem_61 : decode cX3_takeItem 61 = .ok (.invokevirtual 59, 3) := by decide +kernel
theorem dX3_takeItem_64 : decode cX3_takeItem 64 = .ok (.istore_n 2, 1) := by decide +kernel
theorem dX3_takeItem_65 : decode cX3_takeItem 65 = .ok (.iload_n 2, 1) := by decide +kernel
theorem dX3_takeItem_66 : decode cX3_takeItem 66 = .ok (.ifCond .lt 16, 3) := by decide +kernel
theorem dX3_takeItem_69 : decode cX3_takeItem 69 = .ok (.aload_n 0, 1) := by decide +kernel
theorem dX3_takeItem_70 : decode cX3_takeItem 70 = .ok (.aload_n 1, 1) := by decide +kernel
theorem dX3_takeItem_71 : decode cX3_takeItem 71 = .ok (.iload_n 2, 1) := by decide +kernel
theorem dX3_takeItem_72 : decode cX3_takeItem 72 = .ok (.invokevirtual 63, 3) := by decide +kernel
theorem dX3_takeItem_75 : decode cX3_takeItem 75 = .ok (.ifCond .eq 7, 3) := by decide +kernel
theorem dX3_takeItem_78 : decode cX3_takeItem 78 = .ok (.iconst 1, 1) := by decide +kernel
theorem dX3_takeItem_79 : decode cX3_takeItem 79 = .ok (.goto 4, 3) := by decide +kernel
theorem dX3_takeItem_82 : decode cX3_takeItem 82 = .ok (.iconst 0, 1) := by decide +kernel
theorem dX3_takeItem_83 : decode cX3_takeItem 83 = .ok (.ireturn, 1) := by decide +kernel
theorem dX3_takeRange_0 : decode cX3_takeRange 0 = .ok (.aload_n 1, 1) := by decide +kernel
theorem dX3_takeRange_1 : decode cX3_takeRange 1 = .ok (.getfield 67, 3) := by decide +kernel
theorem dX3_takeRange_4 : decode cX3_takeRange 4 = .ok (.bipush 8, 2) := by decide +kernel
theorem dX3_takeRange_6 : decode cX3_takeRange 6 = .ok (.if_icmp .lt 5, 3) := by decide +kernel
theorem dX3_takeRange_9 : decode cX3_takeRange 9 = .ok (.iconst 0, 1) := by decide +kernel
theorem dX3_takeRange_10 : decode cX3_takeRange 10 = .ok (.ireturn, 1) := by decide +kernel
theorem dX3_takeRange_11 : decode cX3_takeRange 11 = .ok (.aload_n 0, 1) := by decide +kernel
theorem dX3_takeRange_12 : decode cX3_takeRange 12 = .ok (.invokevirtual 22, 3) := by decide +kernel
theorem dX3_takeRange_15 : decode cX3_takeRange 15 = .ok (.aload_n 0, 1) := by decide +kernel
theorem dX3_takeRange_16 : decode cX3_takeRange 16 = .ok (.ldc 72, 2) := by decide +kernel
theorem dX3_takeRange_18 : decode cX3_takeRange 18 = .ok (.invokevirtual 37, 3) := by decide +kernel
theorem dX3_takeRange_21 : decode cX3_takeRange 21 = .ok (.ifCond .ne 5, 3) := by decide +kernel
theorem dX3_takeRange_24 : decode cX3_takeRange 24 = .ok (.iconst 0, 1) := by decide +kernel
theorem dX3_takeRange_25 : decode cX3_takeRange 25 = .ok (.ireturn, 1) := by decide +kernel
theorem dX3_takeRange_26 : decode cX3_takeRange 26 = .ok (.aload_n 0, 1) := by decide +kernel
theorem dX3_takeRange_27 : decode cX3_takeRange 27 = .ok (.invokevirtual 22, 3) := by decide +kernel
theorem dX3_takeRange_30 : decode cX3_takeRange 30 = .ok (.aload_n 0, 1) := by decide +kernel
theorem dX3_takeRange_31 : decode cX3_takeRange 31 = .ok (.iconst 0, 1) := by decide +kernel
theorem dX3_takeRange_32 : decode cX3_takeRange 32 = .ok (.bipush 23, 2) := by decide +kernel
theorem dX3_takeRange_34 : decode cX3_takeRange 34 = .ok (.invokevirtual 74, 3) := by decide +kernel
theorem dX3_takeRange_37 : decode cX3_takeRange 37 = .ok (.ifCond .eq 14, 3) := by decide +kernel
theorem dX3_takeRange_40 : decode cX3_takeRange 40 = .ok (.aload_n 1, 1) := by decide +kernel
theorem dX3_takeRange_41 : decode cX3_takeRange 41 = .ok (.aload_n 0, 1) := by decide +kernel
theorem dX3_takeRange_42 : decode cX3_takeRange 42 = .ok (.getfield 78, 3) := by decide +kernel
theorem dX3_takeRange_45 : decode cX3_takeRange 45 = .ok (.invokevirtual 81, 3) := by decide +kernel
theorem dX3_takeRange_48 : decode cX3_takeRange 48 = .ok (.ifCond .lt 5, 3) := by decide +kernel
theorem dX3_takeRange_51 : decode cX3_takeRange 51 = .ok (.iconst 0, 1) := by decide +kernel
theorem dX3_takeRange_52 : decode cX3_takeRange 52 = .ok (.ireturn, 1) := by decide +kernel
theorem dX3_takeRange_53 : decode cX3_takeRange 53 = .ok (.aload_n 0, 1) := by decide +kernel
theorem dX3_takeRange_54 : decode cX3_takeRange 54 = .ok (.invokevirtual 85, 3) := by decide +kernel
theorem dX3_takeRange_57 : decode cX3_takeRange 57 = .ok (.istore_n 3, 1) := by decide +kernel
theorem dX3_takeRange_58 : decode cX3_takeRange 58 = .ok (.iconst 0, 1) := by decide +kernel
theorem dX3_takeRange_59 : decode cX3_takeRange 59 = .ok (.istore 4, 2) := by decide +kernel
theorem dX3_takeRange_61 : decode cX3_takeRange 61 = .ok (.aload_n 0, 1) := by decide +kernel
theorem dX3_takeRange_62 : decode cX3_takeRange 62 = .ok (.ldc 88, 2) := by decide +kernel
theorem dX3_takeRange_64 : decode cX3_takeRange 64 = .ok (.invokevirtual 37, 3) := by decide +kernel
theorem dX3_takeRange_67 : decode cX3_takeRange 67 = .ok (.ifCond .eq 25, 3) := by decide +kernel
theorem dX3_takeRange_70 : decode cX3_takeRange 70 = .ok (.aload_n 0, 1) := by decide +kernel
theorem dX3_takeRange_71 : decode cX3_takeRange 71 = .ok (.invokevirtual 22, 3) := by decide +kernel
theorem dX3_takeRange_74 : decode cX3_takeRange 74 = .ok (.aload_n 0, 1) := by decide +kernel
theorem dX3_takeRange_75 : decode cX3_takeRange 75 = .ok (.iconst 0, 1) := by decide +kernel
theorem dX3_takeRange_76 : decode cX3_takeRange 76 = .ok (.bipush 9, 2) := by decide +kernel
theorem dX3_takeRange_78 : decode cX3_takeRange 78 = .ok (.invokevirtual 74, 3) := by decide +kernel
theorem dX3_takeRange_81 : decode cX3_takeRange 81 = .ok (.ifCond .ne 5, 3) := by decide +kernel
theorem dX3_takeRange_84 : decode cX3_takeRange 84 = .ok (.iconst 0, 1) := by decide +kernel
theorem dX3_takeRange_85 : decode cX3_takeRange 85 = .ok (.ireturn, 1) := by decide +kernel
theorem dX3_takeRange_86 : decode cX3_takeRange 86 = .ok (.aload_n 0, 1) := by decide +kernel
theorem dX3_takeRange_87 : decode cX3_takeRange 87 = .ok (.invokevirtual 85, 3) := by decide +kernel
theorem dX3_takeRange_90 : decode cX3_takeRange 90 = .ok (.istore 4, 2) := by decide +kernel
theorem dX3_takeRange_92 : decode cX3_takeRange 92 = .ok (.aload_n 1, 1) := by decide +kernel
theorem dX3_takeRange_93 : decode cX3_takeRange 93 = .ok (.iload_n 2, 1) := by decide +kernel
theorem dX3_takeRange_94 : decode cX3_takeRange 94 = .ok (.iload_n 3, 1) := by decide +kernel
theorem dX3_takeRange_95 : decode cX3_takeRange 95 = .ok (.iload 4, 2) := by decide +kernel
theorem dX3_takeRange_97 : decode cX3_takeRange 97 = .ok (.invokevirtual 90, 3) := by decide +kernel
theorem dX3_takeRange_100 : decode cX3_takeRange 100 = .ok (.pop, 1) := by decide +kernel
theorem dX3_takeRange_101 : decode cX3_takeRange 101 = .ok (.iconst 1, 1) := by decide +kernel
theorem dX3_takeRange_102 : decode cX3_takeRange 102 = .ok (.ireturn, 1) := by decide +kernel
theorem dX3_takePass_0 : decode cX3_takePass 0 = .ok (.aload_n 0, 1) := by decide +kernel
theorem dX3_takePass_1 : decode cX3_takePass 1 = .ok (.invokevirtual 22, 3) := by decide +kernel
theorem dX3_takePass_4 : decode cX3_takePass 4 = .ok (.aload_n 0, 1) := by decide +kernel
theorem dX3_takePass_5 : decode cX3_takePass 5 = .ok (.iconst 0, 1) := by decide +kernel
theorem dX3_takePass_6 : decode cX3_takePass 6 = .ok (.bipush 23, 2) := by decide +kernel
theorem dX3_takePass_8 : decode cX3_takePass 8 = .ok (.invokevirtual 74, 3) := by decide +kernel
theorem dX3_takePass_11 : decode cX3_takePass 11 = .ok (.ifCond .ne 5, 3) := by decide +kernel
theorem dX3_takePass_14 : decode cX3_takePass 14 = .ok (.iconst 0, 1) := by decide +kernel
theorem dX3_takePass_15 : decode cX3_takePass 15 = .ok (.ireturn, 1) := by decide +kernel
theorem dX3_takePass_16 : decode cX3_takePass 16 = .ok (.aload_n 0, 1) := by decide +kernel
theorem dX3_takePass_17 : decode cX3_takePass 17 = .ok (.invokevirtual 85, 3) := by decide +kernel
theorem dX3_takePass_20 : decode cX3_takePass 20 = .ok (.istore_n 2, 1) := by decide +kernel
theorem dX3_takePass_21 : decode cX3_takePass 21 = .ok (.aload_n 0, 1) := by decide +kernel
theorem dX3_takePass_22 : decode cX3_takePass 22 = .ok (.iconst 2, 1) := by decide +kernel
theorem dX3_takePass_23 : decode cX3_takePass 23 = .ok (.bipush 9, 2) := by decide +kernel
theorem dX3_takePass_25 : decode cX3_takePass 25 = .ok (.invokevirtual 74, 3) := by decide +kernel
theorem dX3_takePass_28 : decode cX3_takePass 28 = .ok (.ifCond .ne 5, 3) := by decide +kernel
theorem dX3_takePass_31 : decode cX3_takePass 31 = .ok (.iconst 0, 1) := by decide +kernel
theorem dX3_takePass_32 : decode cX3_takePass 32 = .ok (.ireturn, 1) := by decide +kernel
theorem dX3_takePass_33 : decode cX3_takePass 33 = .ok (.aload_n 0, 1) := by decide +kernel
theorem dX3_takePass_34 : decode cX3_takePass 34 = .ok (.invokevirtual 85, 3) := by decide +kernel
theorem dX3_takePass_37 : decode cX3_takePass 37 = .ok (.istore_n 3, 1) := by decide +kernel
theorem dX3_takePass_38 : decode cX3_takePass 38 = .ok (.aload_n 0, 1) := by decide +kernel
theorem dX3_takePass_39 : decode cX3_takePass 39 = .ok (.iconst 0, 1) := by decide +kernel
theorem dX3_takePass_40 : decode cX3_takePass 40 = .ok (.iload_n 3, 1) := by decide +kernel
theorem dX3_takePass_41 : decode cX3_takePass 41 = .ok (.invokevirtual 74, 3) := by decide +kernel
theorem dX3_takePass_44 : decode cX3_takePass 44 = .ok (.ifCond .ne 5, 3) := by decide +kernel
theorem dX3_takePass_47 : decode cX3_takePass 47 = .ok (.iconst 0, 1) := by decide +kernel
theorem dX3_takePass_48 : decode cX3_takePass 48 = .ok (.ireturn, 1) := by decide +kernel
theorem dX3_takePass_49 : decode cX3_takePass 49 = .ok (.aload_n 1, 1) := by decide +kernel
theorem dX3_takePass_50 : decode cX3_takePass 50 = .ok (.iload_n 2, 1) := by decide +kernel
theorem dX3_takePass_51 : decode cX3_takePass 51 = .ok (.iload_n 3, 1) := by decide +kernel
theorem dX3_takePass_52 : decode cX3_takePass 52 = .ok (.aload_n 0, 1) := by decide +kernel
theorem dX3_takePass_53 : decode cX3_takePass 53 = .ok (.invokevirtual 85, 3) := by decide +kernel
theorem dX3_takePass_56 : decode cX3_takePass 56 = .ok (.invokevirtual 94, 3) := by decide +kernel
theorem dX3_takePass_59 : decode cX3_takePass 59 = .ok (.iconst 1, 1) := by decide +kernel
theorem dX3_takePass_60 : decode cX3_takePass 60 = .ok (.ireturn, 1) := by decide +kernel
theorem dX3_takeFree_0 : decode cX3_takeFree 0 = .ok (.aload_n 0, 1) := by decide +kernel
theorem dX3_takeFree_1 : decode cX3_takeFree 1 = .ok (.invokevirtual 22, 3) := by decide +kernel
theorem dX3_takeFree_4 : decode cX3_takeFree 4 = .ok (.aload_n 0, 1) := by decide +kernel
theorem dX3_takeFree_5 : decode cX3_takeFree 5 = .ok (.iconst 0, 1) := by decide +kernel
theorem dX3_takeFree_6 : decode cX3_takeFree 6 = .ok (.bipush 23, 2) := by decide +kernel
theorem dX3_takeFree_8 : decode cX3_takeFree 8 = .ok (.invokevirtual 74, 3) := by decide +kernel
theorem dX3_takeFree_11 : decode cX3_takeFree 11 = .ok (.ifCond .ne 5, 3) := by decide +kernel
theorem dX3_takeFree_14 : decode cX3_takeFree 14 = .ok (.iconst 0, 1) := by decide +kernel
theorem dX3_takeFree_15 : decode cX3_takeFree 15 = .ok (.ireturn, 1) := by decide +kernel
theorem dX3_takeFree_16 : decode cX3_takeFree 16 = .ok (.aload_n 1, 1) := by decide +kernel
theorem dX3_takeFree_17 : decode cX3_takeFree 17 = .ok (.aload_n 0, 1) := by decide +kernel
theorem dX3_takeFree_18 : decode cX3_takeFree 18 = .ok (.invokevirtual 85, 3) := by decide +kernel
theorem dX3_takeFree_21 : decode cX3_takeFree 21 = .ok (.iconst 0, 1) := by decide +kernel
theorem dX3_takeFree_22 : decode cX3_takeFree 22 = .ok (.iconst 0, 1) := by decide +kernel
theorem dX3_takeFree_23 : decode cX3_takeFree 23 = .ok (.invokevirtual 94, 3) := by decide +kernel
theorem dX3_takeFree_26 : decode cX3_takeFree 26 = .ok (.iconst 1, 1) := by decide +kernel
theorem dX3_takeFree_27 : decode cX3_takeFree 27 = .ok (.ireturn, 1) := by decide +kernel
theorem dX3_takeVillage_0 : decode cX3_takeVillage 0 = .ok (.aload_n 1, 1) := by decide +kernel
theorem dX3_takeVillage_1 : decode cX3_takeVillage 1 = .ok (.getfield 98, 3) := by decide +kernel
theorem dX3_takeVillage_4 : decode cX3_takeVillage 4 = .ok (.bipush 6, 2) := by decide +kernel
theorem dX3_takeVillage_6 : decode cX3_takeVillage 6 = .ok (.if_icmp .lt 5, 3) := by decide +kernel
theorem dX3_takeVillage_9 : decode cX3_takeVillage 9 = .ok (.iconst 0, 1) := by decide +kernel
theorem dX3_takeVillage_10 : decode cX3_takeVillage 10 = .ok (.ireturn, 1) := by decide +kernel
theorem dX3_takeVillage_11 : decode cX3_takeVillage 11 = .ok (.aload_n 0, 1) := by decide +kernel
theorem dX3_takeVillage_12 : decode cX3_takeVillage 12 = .ok (.invokevirtual 22, 3) := by decide +kernel
theorem dX3_takeVillage_15 : decode cX3_takeVillage 15 = .ok (.aload_n 0, 1) := by decide +kernel
theorem dX3_takeVillage_16 : decode cX3_takeVillage 16 = .ok (.iconst 0, 1) := by decide +kernel
theorem dX3_takeVillage_17 : decode cX3_takeVillage 17 = .ok (.bipush 23, 2) := by decide +kernel
theorem dX3_takeVillage_19 : decode cX3_takeVillage 19 = .ok (.invokevirtual 74, 3) := by decide +kernel
theorem dX3_takeVillage_22 : decode cX3_takeVillage 22 = .ok (.ifCond .ne 5, 3) := by decide +kernel
theorem dX3_takeVillage_25 : decode cX3_takeVillage 25 = .ok (.iconst 0, 1) := by decide +kernel
theorem dX3_takeVillage_26 : decode cX3_takeVillage 26 = .ok (.ireturn, 1) := by decide +kernel
theorem dX3_takeVillage_27 : decode cX3_takeVillage 27 = .ok (.aload_n 1, 1) := by decide +kernel
theorem dX3_takeVillage_28 : decode cX3_takeVillage 28 = .ok (.aload_n 0, 1) := by decide +kernel
theorem dX3_takeVillage_29 : decode cX3_takeVillage 29 = .ok (.invokevirtual 85, 3) := by decide +kernel
theorem dX3_takeVillage_32 : decode cX3_takeVillage 32 = .ok (.invokevirtual 101, 3) := by decide +kernel
theorem dX3_takeVillage_35 : decode cX3_takeVillage 35 = .ok (.pop, 1) := by decide +kernel
theorem dX3_takeVillage_36 : decode cX3_takeVillage 36 = .ok (.iconst 1, 1) := by decide +kernel
theorem dX3_takeVillage_37 : decode cX3_takeVillage 37 = .ok (.ireturn, 1) := by decide +kernel
theorem dX3_takeOrder_0 : decode cX3_takeOrder 0 = .ok (.aload_n 0, 1) := by decide +kernel
theorem dX3_takeOrder_1 : decode cX3_takeOrder 1 = .ok (.invokevirtual 22, 3) := by decide +kernel
theorem dX3_takeOrder_4 : decode cX3_takeOrder 4 = .ok (.aload_n 0, 1) := by decide +kernel
theorem dX3_takeOrder_5 : decode cX3_takeOrder 5 = .ok (.iconst 0, 1) := by decide +kernel
theorem dX3_takeOrder_6 : decode cX3_takeOrder 6 = .ok (.iconst 3, 1) := by decide +kernel
theorem dX3_takeOrder_7 : decode cX3_takeOrder 7 = .ok (.invokevirtual 74, 3) := by decide +kernel
theorem dX3_takeOrder_10 : decode cX3_takeOrder 10 = .ok (.ifCond .ne 5, 3) := by decide +kernel
theorem dX3_takeOrder_13 : decode cX3_takeOrder 13 = .ok (.iconst 0, 1) := by decide +kernel
theorem dX3_takeOrder_14 : decode cX3_takeOrder 14 = .ok (.ireturn, 1) := by decide +kernel
theorem dX3_takeOrder_15 : decode cX3_takeOrder 15 = .ok (.aload_n 0, 1) := by decide +kernel
theorem dX3_takeOrder_16 : decode cX3_takeOrder 16 = .ok (.invokevirtual 85, 3) := by decide +kernel
theorem dX3_takeOrder_19 : decode cX3_takeOrder 19 = .ok (.istore_n 2, 1) := by decide +kernel
theorem dX3_takeOrder_20 : decode cX3_takeOrder 20 = .ok (.aload_n 0, 1) := by decide +kernel
theorem dX3_takeOrder_21 : decode cX3_takeOrder 21 = .ok (.ldc 104, 2) := by decide +kernel
theorem dX3_takeOrder_23 : decode cX3_takeOrder 23 = .ok (.invokevirtual 37, 3) := by decide +kernel
theorem dX3_takeOrder_26 : decode cX3_takeOrder 26 = .ok (.istore_n 3, 1) := by decide +kernel
theorem dX3_takeOrder_27 : decode cX3_takeOrder 27 = .ok (.iload_n 3, 1) := by decide +kernel
theorem dX3_takeOrder_28 : decode cX3_takeOrder 28 = .ok (.ifCond .eq 7, 3) := by decide +kernel
theorem dX3_takeOrder_31 : decode cX3_takeOrder 31 = .ok (.aload_n 0, 1) := by decide +kernel
theorem dX3_takeOrder_32 : decode cX3_takeOrder 32 = .ok (.invokevirtual 22, 3) := by decide +kernel
theorem dX3_takeOrder_35 : decode cX3_takeOrder 35 = .ok (.aload_n 0, 1) := by decide +kernel
theorem dX3_takeOrder_36 : decode cX3_takeOrder 36 = .ok (.iconst 0, 1) := by decide +kernel
theorem dX3_takeOrder_37 : decode cX3_takeOrder 37 = .ok (.bipush 9, 2) := by decide +kernel
theorem dX3_takeOrder_39 : decode cX3_takeOrder 39 = .ok (.invokevirtual 74, 3) := by decide +kernel
theorem dX3_takeOrder_42 : decode cX3_takeOrder 42 = .ok (.ifCond .ne 5, 3) := by decide +kernel
theorem dX3_takeOrder_45 : decode cX3_takeOrder 45 = .ok (.iconst 0, 1) := by decide +kernel
theorem dX3_takeOrder_46 : decode cX3_takeOrder 46 = .ok (.ireturn, 1) := by decide +kernel
theorem dX3_takeOrder_47 : decode cX3_takeOrder 47 = .ok (.aload_n 0, 1) := by decide +kernel
theorem dX3_takeOrder_48 : decode cX3_takeOrder 48 = .ok (.invokevirtual 85, 3) := by decide +kernel
theorem dX3_takeOrder_51 : decode cX3_takeOrder 51 = .ok (.istore 4, 2) := by decide +kernel
theorem dX3_takeOrder_53 : decode cX3_takeOrder 53 = .ok (.aload_n 1, 1) := by decide +kernel
theorem dX3_takeOrder_54 : decode cX3_takeOrder 54 = .ok (.getfield 106, 3) := by decide +kernel
theorem dX3_takeOrder_57 : decode cX3_takeOrder 57 = .ok (.iload_n 2, 1) := by decide +kernel
theorem dX3_takeOrder_58 : decode cX3_takeOrder 58 = .ok (.iload_n 3, 1) := by decide +kernel
theorem dX3_takeOrder_59 : decode cX3_takeOrder 59 = .ok (.ifCond .eq 9, 3) := by decide +kernel
theorem dX3_takeOrder_62 : decode cX3_takeOrder 62 = .ok (.iload 4, 2) := by decide +kernel
theorem dX3_takeOrder_64 : decode cX3_takeOrder 64 = .ok (.ineg, 1) := by decide +kernel
theorem dX3_takeOrder_65 : decode cX3_takeOrder 65 = .ok (.goto 5, 3) := by decide +kernel
theorem dX3_takeOrder_68 : decode cX3_takeOrder 68 = .ok (.iload 4, 2) := by decide +kernel
theorem dX3_takeOrder_70 : decode cX3_takeOrder 70 = .ok (.iastore, 1) := by decide +kernel
theorem dX3_takeOrder_71 : decode cX3_takeOrder 71 = .ok (.iconst 1, 1) := by decide +kernel
theorem dX3_takeOrder_72 : decode cX3_takeOrder 72 = .ok (.ireturn, 1) := by decide +kernel
theorem dX3_takeNumber_0 : decode cX3_takeNumber 0 = .ok (.aload_n 0, 1) := by decide +kernel
theorem dX3_takeNumber_1 : decode cX3_takeNumber 1 = .ok (.getfield 78, 3) := by decide +kernel
theorem dX3_takeNumber_4 : decode cX3_takeNumber 4 = .ok (.istore_n 1, 1) := by decide +kernel
theorem dX3_takeNumber_5 : decode cX3_takeNumber 5 = .ok (.aload_n 0, 1) := by decide +kernel
theorem dX3_takeNumber_6 : decode cX3_takeNumber 6 = .ok (.invokevirtual 22, 3) := by decide +kernel
theorem dX3_takeNumber_9 : decode cX3_takeNumber 9 = .ok (.iload_n 1, 1) := by decide +kernel
theorem dX3_takeNumber_10 : decode cX3_takeNumber 10 = .ok (.ireturn, 1) := by decide +kernel
theorem dX3_isNumber_0 : decode cX3_isNumber 0 = .ok (.aload_n 0, 1) := by decide +kernel
theorem dX3_isNumber_1 : decode cX3_isNumber 1 = .ok (.getfield 32, 3) := by decide +kernel
theorem dX3_isNumber_4 : decode cX3_isNumber 4 = .ok (.iconst 2, 1) := by decide +kernel
theorem dX3_isNumber_5 : decode cX3_isNumber 5 = .ok (.if_icmp .ne 19, 3) := by decide +kernel
theorem dX3_isNumber_8 : decode cX3_isNumber 8 = .ok (.aload_n 0, 1) := by decide +kernel
theorem dX3_isNumber_9 : decode cX3_isNumber 9 = .ok (.getfield 78, 3) := by decide +kernel
theorem dX3_isNumber_12 : decode cX3_isNumber 12 = .ok (.iload_n 1, 1) := by decide +kernel
theorem dX3_isNumber_13 : decode cX3_isNumber 13 = .ok (.iload_n 2, 1) := by decide +kernel
theorem dX3_isNumber_14 : decode cX3_isNumber 14 = .ok (.invokestatic 109, 3) := by decide +kernel
theorem dX3_isNumber_17 : decode cX3_isNumber 17 = .ok (.ifCond .eq 7, 3) := by decide +kernel
theorem dX3_isNumber_20 : decode cX3_isNumber 20 = .ok (.iconst 1, 1) := by decide +kernel
theorem dX3_isNumber_21 : decode cX3_isNumber 21 = .ok (.goto 4, 3) := by decide +kernel
theorem dX3_isNumber_24 : decode cX3_isNumber 24 = .ok (.iconst 0, 1) := by decide +kernel
theorem dX3_isNumber_25 : decode cX3_isNumber 25 = .ok (.ireturn, 1) := by decide +kernel
theorem dX3_isWord_0 : decode cX3_isWord 0 = .ok (.aload_n 0, 1) := by decide +kernel
theorem dX3_isWord_1 : decode cX3_isWord 1 = .ok (.getfield 32, 3) := by decide +kernel
theorem dX3_isWord_4 : decode cX3_isWord 4 = .ok (.iconst 1, 1) := by decide +kernel
theorem dX3_isWord_5 : decode cX3_isWord 5 = .ok (.if_icmp .ne 19, 3) := by decide +kernel
theorem dX3_isWord_8 : decode cX3_isWord 8 = .ok (.aload_n 0, 1) := by decide +kernel
theorem dX3_isWord_9 : decode cX3_isWord 9 = .ok (.getfield 19, 3) := by decide +kernel
theorem dX3_isWord_12 : decode cX3_isWord 12 = .ok (.aload_n 0, 1) := by decide +kernel
theorem dX3_isWord_13 : decode cX3_isWord 13 = .ok (.getfield 29, 3) := by decide +kernel
theorem dX3_isWord_16 : decode cX3_isWord 16 = .ok (.isub, 1) := by decide +kernel
theorem dX3_isWord_17 : decode cX3_isWord 17 = .ok (.aload_n 1, 1) := by decide +kernel
theorem dX3_isWord_18 : decode cX3_isWord 18 = .ok (.invokevirtual 113, 3) := by decide +kernel
theorem dX3_isWord_21 : decode cX3_isWord 21 = .ok (.if_icmp .eq 5, 3) := by decide +kernel
theorem dX3_isWord_24 : decode cX3_isWord 24 = .ok (.iconst 0, 1) := by decide +kernel
theorem dX3_isWord_25 : decode cX3_isWord 25 = .ok (.ireturn, 1) := by decide +kernel
theorem dX3_isWord_26 : decode cX3_isWord 26 = .ok (.iconst 0, 1) := by decide +kernel
theorem dX3_isWord_27 : decode cX3_isWord 27 = .ok (.istore_n 2, 1) := by decide +kernel
theorem dX3_isWord_28 : decode cX3_isWord 28 = .ok (.iload_n 2, 1) := by decide +kernel
theorem dX3_isWord_29 : decode cX3_isWord 29 = .ok (.aload_n 1, 1) := by decide +kernel
theorem dX3_isWord_30 : decode cX3_isWord 30 = .ok (.invokevirtual 113, 3) := by decide +kernel
theorem dX3_isWord_33 : decode cX3_isWord 33 = .ok (.if_icmp .ge 30, 3) := by decide +kernel
theorem dX3_isWord_36 : decode cX3_isWord 36 = .ok (.aload_n 0, 1) := by decide +kernel
theorem dX3_isWord_37 : decode cX3_isWord 37 = .ok (.getfield 9, 3) := by decide +kernel
theorem dX3_isWord_40 : decode cX3_isWord 40 = .ok (.aload_n 0, 1) := by decide +kernel
theorem dX3_isWord_41 : decode cX3_isWord 41 = .ok (.getfield 29, 3) := by decide +kernel
theorem dX3_isWord_44 : decode cX3_isWord 44 = .ok (.iload_n 2, 1) := by decide +kernel
theorem dX3_isWord_45 : decode cX3_isWord 45 = .ok (.iadd, 1) := by decide +kernel
theorem dX3_isWord_46 : decode cX3_isWord 46 = .ok (.iaload, 1) := by decide +kernel
theorem dX3_isWord_47 : decode cX3_isWord 47 = .ok (.aload_n 1, 1) := by decide +kernel
theorem dX3_isWord_48 : decode cX3_isWord 48 = .ok (.iload_n 2, 1) := by decide +kernel
theorem dX3_isWord_49 : decode cX3_isWord 49 = .ok (.invokevirtual 118, 3) := by decide +kernel
theorem dX3_isWord_52 : decode cX3_isWord 52 = .ok (.if_icmp .eq 5, 3) := by decide +kernel
theorem dX3_isWord_55 : decode cX3_isWord 55 = .ok (.iconst 0, 1) := by decide +kernel
theorem dX3_isWord_56 : decode cX3_isWord 56 = .ok (.ireturn, 1) := by decide +kernel
theorem dX3_isWord_57 : decode cX3_isWord 57 = .ok (.iinc 2 1, 3) := by decide +kernel
theorem dX3_isWord_60 : decode cX3_isWord 60 = .ok (.goto (-32), 3) := by decide +kernel
theorem dX3_isWord_63 : decode cX3_isWord 63 = .ok (.iconst 1, 1) := by decide +kernel
theorem dX3_isWord_64 : decode cX3_isWord 64 = .ok (.ireturn, 1) := by decide +kernel
theorem dX3_kindAtHand_0 : decode cX3_kindAtHand 0 = .ok (.iconst 0, 1) := by decide +kernel
theorem dX3_kindAtHand_1 : decode cX3_kindAtHand 1 = .ok (.istore_n 1, 1) := by decide +kernel
theorem dX3_kindAtHand_2 : decode cX3_kindAtHand 2 = .ok (.iload_n 1, 1) := by decide +kernel
theorem dX3_kindAtHand_3 : decode cX3_kindAtHand 3 = .ok (.bipush 6, 2) := by decide +kernel
theorem dX3_kindAtHand_5 : decode cX3_kindAtHand 5 = .ok (.if_icmp .ge 22, 3) := by decide +kernel
theorem dX3_kindAtHand_8 : decode cX3_kindAtHand 8 = .ok (.aload_n 0, 1) := by decide +kernel
theorem dX3_kindAtHand_9 : decode cX3_kindAtHand 9 = .ok (.iload_n 1, 1) := by decide +kernel
theorem dX3_kindAtHand_10 : decode cX3_kindAtHand 10 = .ok (.invokestatic 122, 3) := by decide +kernel
theorem dX3_kindAtHand_13 : decode cX3_kindAtHand 13 = .ok (.invokevirtual 37, 3) := by decide +kernel
theorem dX3_kindAtHand_16 : decode cX3_kindAtHand 16 = .ok (.ifCond .eq 5, 3) := by decide +kernel
theorem dX3_kindAtHand_19 : decode cX3_kindAtHand 19 = .ok (.iload_n 1, 1) := by decide +kernel
theorem dX3_kindAtHand_20 : decode cX3_kindAtHand 20 = .ok (.ireturn, 1) := by decide +kernel
theorem dX3_kindAtHand_21 : decode cX3_kindAtHand 21 = .ok (.iinc 1 1, 3) := by decide +kernel
theorem dX3_kindAtHand_24 : decode cX3_kindAtHand 24 = .ok (.goto (-22), 3) := by decide +kernel
theorem dX3_kindAtHand_27 : decode cX3_kindAtHand 27 = .ok (.iconst (-1), 1) := by decide +kernel
theorem dX3_kindAtHand_28 : decode cX3_kindAtHand 28 = .ok (.ireturn, 1) := by decide +kernel
theorem dX3_nameOfKind_0 : decode cX3_nameOfKind 0 = .ok (.iload_n 0, 1) := by decide +kernel
theorem dX3_nameOfKind_1 : decode cX3_nameOfKind 1 = .ok (.tableswitch 50 1 5 #[35, 38, 41, 44, 47], 35) := by decide +kernel
theorem dX3_nameOfKind_36 : decode cX3_nameOfKind 36 = .ok (.ldc 126, 2) := by decide +kernel
theorem dX3_nameOfKind_38 : decode cX3_nameOfKind 38 = .ok (.areturn, 1) := by decide +kernel
theorem dX3_nameOfKind_39 : decode cX3_nameOfKind 39 = .ok (.ldc 128, 2) := by decide +kernel
theorem dX3_nameOfKind_41 : decode cX3_nameOfKind 41 = .ok (.areturn, 1) := by decide +kernel
theorem dX3_nameOfKind_42 : decode cX3_nameOfKind 42 = .ok (.ldc 130, 2) := by decide +kernel
theorem dX3_nameOfKind_44 : decode cX3_nameOfKind 44 = .ok (.areturn, 1) := by decide +kernel
theorem dX3_nameOfKind_45 : decode cX3_nameOfKind 45 = .ok (.ldc 132, 2) := by decide +kernel
theorem dX3_nameOfKind_47 : decode cX3_nameOfKind 47 = .ok (.areturn, 1) := by decide +kernel
theorem dX3_nameOfKind_48 : decode cX3_nameOfKind 48 = .ok (.ldc 134, 2) := by decide +kernel
theorem dX3_nameOfKind_50 : decode cX3_nameOfKind 50 = .ok (.areturn, 1) := by decide +kernel
theorem dX3_nameOfKind_51 : decode cX3_nameOfKind 51 = .ok (.ldc 136, 2) := by decide +kernel
theorem dX3_nameOfKind_53 : decode cX3_nameOfKind 53 = .ok (.areturn, 1) := by decide +kernel
theorem dX3_nextToken_0 : decode cX3_nextToken 0 = .ok (.aload_n 0, 1) := by decide +kernel
theorem dX3_nextToken_1 : decode cX3_nextToken 1 = .ok (.aload_n 0, 1) := by decide +kernel
theorem dX3_nextToken_2 : decode cX3_nextToken 2 = .ok (.getfield 19, 3) := by decide +kernel
theorem dX3_nextToken_5 : decode cX3_nextToken 5 = .ok (.putfield 29, 3) := by decide +kernel
theorem dX3_nextToken_8 : decode cX3_nextToken 8 = .ok (.aload_n 0, 1) := by decide +kernel
theorem dX3_nextToken_9 : decode cX3_nextToken 9 = .ok (.getfield 29, 3) := by decide +kernel
theorem dX3_nextToken_12 : decode cX3_nextToken 12 = .ok (.aload_n 0, 1) := by decide +kernel
theorem dX3_nextToken_13 : decode cX3_nextToken 13 = .ok (.getfield 15, 3) := by decide +kernel
theorem dX3_nextToken_16 : decode cX3_nextToken 16 = .ok (.if_icmp .ge 30, 3) := by decide +kernel
theorem dX3_nextToken_19 : decode cX3_nextToken 19 = .ok (.aload_n 0, 1) := by decide +kernel
theorem dX3_nextToken_20 : decode cX3_nextToken 20 = .ok (.getfield 9, 3) := by decide +kernel
theorem dX3_nextToken_23 : decode cX3_nextToken 23 = .ok (.aload_n 0, 1) := by decide +kernel
theorem dX3_nextToken_24 : decode cX3_nextToken 24 = .ok (.getfield 29, 3) := by decide +kernel
theorem dX3_nextToken_27 : decode cX3_nextToken 27 = .ok (.iaload, 1) := by decide +kernel
theorem dX3_nextToken_28 : decode cX3_nextToken 28 = .ok (.bipush 32, 2) := by decide +kernel
theorem dX3_nextToken_30 : decode cX3_nextToken 30 = .ok (.if_icmp .ne 16, 3) := by decide +kernel
theorem dX3_nextToken_33 : decode cX3_nextToken 33 = .ok (.aload_n 0, 1) := by decide +kernel
theorem dX3_nextToken_34 : decode cX3_nextToken 34 = .ok (.dup, 1) := by decide +kernel
theorem dX3_nextToken_35 : decode cX3_nextToken 35 = .ok (.getfield 29, 3) := by decide +kernel
theorem dX3_nextToken_38 : decode cX3_nextToken 38 = .ok (.iconst 1, 1) := by decide +kernel
theorem dX3_nextToken_39 : decode cX3_nextToken 39 = .ok (.iadd, 1) := by decide +kernel
theorem dX3_nextToken_40 : decode cX3_nextToken 40 = .ok (.putfield 29, 3) := by decide +kernel
theorem dX3_nextToken_43 : decode cX3_nextToken 43 = .ok (.goto (-35), 3) := by decide +kernel
theorem dX3_nextToken_46 : decode cX3_nextToken 46 = .ok (.aload_n 0, 1) := by decide +kernel
theorem dX3_nextToken_47 : decode cX3_nextToken 47 = .ok (.aload_n 0, 1) := by decide +kernel
theorem dX3_nextToken_48 : decode cX3_nextToken 48 = .ok (.aload_n 0, 1) := by decide +kernel
theorem dX3_nextToken_49 : decode cX3_nextToken 49 = .ok (.getfield 29, 3) := by decide +kernel
theorem dX3_nextToken_52 : decode cX3_nextToken 52 = .ok (.invokevirtual 138, 3) := by decide +kernel
theorem dX3_nextToken_55 : decode cX3_nextToken 55 = .ok (.putfield 32, 3) := by decide +kernel
theorem dX3_nextToken_58 : decode cX3_nextToken 58 = .ok (.aload_n 0, 1) := by decide +kernel
theorem dX3_nextToken_59 : decode cX3_nextToken 59 = .ok (.aload_n 0, 1) := by decide +kernel
theorem dX3_nextToken_60 : decode cX3_nextToken 60 = .ok (.getfield 29, 3) := by decide +kernel
theorem dX3_nextToken_63 : decode cX3_nextToken 63 = .ok (.iconst 1, 1) := by decide +kernel
theorem dX3_nextToken_64 : decode cX3_nextToken 64 = .ok (.iadd, 1) := by decide +kernel
theorem dX3_nextToken_65 : decode cX3_nextToken 65 = .ok (.aload_n 0, 1) := by decide +kernel
theorem dX3_nextToken_66 : decode cX3_nextToken 66 = .ok (.getfield 15, 3) := by decide +kernel
theorem dX3_nextToken_69 : decode cX3_nextToken 69 = .ok (.invokestatic 141, 3) := by decide +kernel
theorem dX3_nextToken_72 : decode cX3_nextToken 72 = .ok (.putfield 19, 3) := by decide +kernel
theorem dX3_nextToken_75 : decode cX3_nextToken 75 = .ok (.aload_n 0, 1) := by decide +kernel
theorem dX3_nextToken_76 : decode cX3_nextToken 76 = .ok (.getfield 32, 3) := by decide +kernel
theorem dX3_nextToken_79 : decode cX3_nextToken 79 = .ok (.iconst 1, 1) := by decide +kernel
theorem dX3_nextToken_80 : decode cX3_nextToken 80 = .ok (.if_icmp .eq 11, 3) := by decide +kernel
theorem dX3_nextToken_83 : decode cX3_nextToken 83 = .ok (.aload_n 0, 1) := by decide +kernel
theorem dX3_nextToken_84 : decode cX3_nextToken 84 = .ok (.getfield 32, 3) := by decide +kernel
theorem dX3_nextToken_87 : decode cX3_nextToken 87 = .ok (.iconst 2, 1) := by decide +kernel
theorem dX3_nextToken_88 : decode cX3_nextToken 88 = .ok (.if_icmp .ne 42, 3) := by decide +kernel
theorem dX3_nextToken_91 : decode cX3_nextToken 91 = .ok (.aload_n 0, 1) := by decide +kernel
theorem dX3_nextToken_92 : decode cX3_nextToken 92 = .ok (.getfield 19, 3) := by decide +kernel
theorem dX3_nextToken_95 : decode cX3_nextToken 95 = .ok (.aload_n 0, 1) := by decide +kernel
theorem dX3_nextToken_96 : decode cX3_nextToken 96 = .ok (.getfield 15, 3) := by decide +kernel
theorem dX3_nextToken_99 : decode cX3_nextToken 99 = .ok (.if_icmp .ge 31, 3) := by decide +kernel
theorem dX3_nextToken_102 : decode cX3_nextToken 102 = .ok (.aload_n 0, 1) := by decide +kernel
theorem dX3_nextToken_103 : decode cX3_nextToken 103 = .ok (.aload_n 0, 1) := by decide +kernel
theorem dX3_nextToken_104 : decode cX3_nextToken 104 = .ok (.getfield 19, 3) := by decide +kernel
theorem dX3_nextToken_107 : decode cX3_nextToken 107 = .ok (.invokevirtual 138, 3) := by decide +kernel
theorem dX3_nextToken_110 : decode cX3_nextToken 110 = .ok (.aload_n 0, 1) := by decide +kernel
theorem dX3_nextToken_111 : decode cX3_nextToken 111 = .ok (.getfield 32, 3) := by decide +kernel
theorem dX3_nextToken_114 : decode cX3_nextToken 114 = .ok (.if_icmp .ne 16, 3) := by decide +kernel
theorem dX3_nextToken_117 : decode cX3_nextToken 117 = .ok (.aload_n 0, 1) := by decide +kernel
theorem dX3_nextToken_118 : decode cX3_nextToken 118 = .ok (.dup, 1) := by decide +kernel
theorem dX3_nextToken_119 : decode cX3_nextToken 119 = .ok (.getfield 19, 3) := by decide +kernel
theorem dX3_nextToken_122 : decode cX3_nextToken 122 = .ok (.iconst 1, 1) := by decide +kernel
theorem dX3_nextToken_123 : decode cX3_nextToken 123 = .ok (.iadd, 1) := by decide +kernel
theorem dX3_nextToken_124 : decode cX3_nextToken 124 = .ok (.putfield 19, 3) := by decide +kernel
theorem dX3_nextToken_127 : decode cX3_nextToken 127 = .ok (.goto (-36), 3) := by decide +kernel
theorem dX3_nextToken_130 : decode cX3_nextToken 130 = .ok (.aload_n 0, 1) := by decide +kernel
theorem dX3_nextToken_131 : decode cX3_nextToken 131 = .ok (.aload_n 0, 1) := by decide +kernel
theorem dX3_nextToken_132 : decode cX3_nextToken 132 = .ok (.getfield 32, 3) := by decide +kernel
theorem dX3_nextToken_135 : decode cX3_nextToken 135 = .ok (.iconst 2, 1) := by decide +kernel
theorem dX3_nextToken_136 : decode cX3_nextToken 136 = .ok (.if_icmp .ne 10, 3) := by decide +kernel
theorem dX3_nextToken_139 : decode cX3_nextToken 139 = .ok (.aload_n 0, 1) := by decide +kernel
theorem dX3_nextToken_140 : decode cX3_nextToken 140 = .ok (.invokevirtual 147, 3) := by decide +kernel
theorem dX3_nextToken_143 : decode cX3_nextToken 143 = .ok (.goto 4, 3) := by decide +kernel
theorem dX3_nextToken_146 : decode cX3_nextToken 146 = .ok (.iconst 0, 1) := by decide +kernel
theorem dX3_nextToken_147 : decode cX3_nextToken 147 = .ok (.putfield 78, 3) := by decide +kernel
theorem dX3_nextToken_150 : decode cX3_nextToken 150 = .ok (.return_, 1) := by decide +kernel
theorem dX3_sortAt_0 : decode cX3_sortAt 0 = .ok (.iload_n 1, 1) := by decide +kernel
theorem dX3_sortAt_1 : decode cX3_sortAt 1 = .ok (.aload_n 0, 1) := by decide +kernel
theorem dX3_sortAt_2 : decode cX3_sortAt 2 = .ok (.getfield 15, 3) := by decide +kernel
theorem dX3_sortAt_5 : decode cX3_sortAt 5 = .ok (.if_icmp .lt 5, 3) := by decide +kernel
theorem dX3_sortAt_8 : decode cX3_sortAt 8 = .ok (.iconst 0, 1) := by decide +kernel
theorem dX3_sortAt_9 : decode cX3_sortAt 9 = .ok (.ireturn, 1) := by decide +kernel
theorem dX3_sortAt_10 : decode cX3_sortAt 10 = .ok (.aload_n 0, 1) := by decide +kernel
theorem dX3_sortAt_11 : decode cX3_sortAt 11 = .ok (.getfield 9, 3) := by decide +kernel
theorem dX3_sortAt_14 : decode cX3_sortAt 14 = .ok (.iload_n 1, 1) := by decide +kernel
theorem dX3_sortAt_15 : decode cX3_sortAt 15 = .ok (.iaload, 1) := by decide +kernel
theorem dX3_sortAt_16 : decode cX3_sortAt 16 = .ok (.istore_n 2, 1) := by decide +kernel
theorem dX3_sortAt_17 : decode cX3_sortAt 17 = .ok (.iload_n 2, 1) := by decide +kernel
theorem dX3_sortAt_18 : decode cX3_sortAt 18 = .ok (.bipush 97, 2) := by decide +kernel
theorem dX3_sortAt_20 : decode cX3_sortAt 20 = .ok (.if_icmp .lt 11, 3) := by decide +kernel
theorem dX3_sortAt_23 : decode cX3_sortAt 23 = .ok (.iload_n 2, 1) := by decide +kernel
theorem dX3_sortAt_24 : decode cX3_sortAt 24 = .ok (.bipush 122, 2) := by decide +kernel
theorem dX3_sortAt_26 : decode cX3_sortAt 26 = .ok (.if_icmp .gt 5, 3) := by decide +kernel
theorem dX3_sortAt_29 : decode cX3_sortAt 29 = .ok (.iconst 1, 1) := by decide +kernel
theorem dX3_sortAt_30 : decode cX3_sortAt 30 = .ok (.ireturn, 1) := by decide +kernel
theorem dX3_sortAt_31 : decode cX3_sortAt 31 = .ok (.iload_n 2, 1) := by decide +kernel
theorem dX3_sortAt_32 : decode cX3_sortAt 32 = .ok (.bipush 48, 2) := by decide +kernel
theorem dX3_sortAt_34 : decode cX3_sortAt 34 = .ok (.if_icmp .lt 11, 3) := by decide +kernel
theorem dX3_sortAt_37 : decode cX3_sortAt 37 = .ok (.iload_n 2, 1) := by decide +kernel
theorem dX3_sortAt_38 : decode cX3_sortAt 38 = .ok (.bipush 57, 2) := by decide +kernel
theorem dX3_sortAt_40 : decode cX3_sortAt 40 = .ok (.if_icmp .gt 5, 3) := by decide +kernel
theorem dX3_sortAt_43 : decode cX3_sortAt 43 = .ok (.iconst 2, 1) := by decide +kernel
theorem dX3_sortAt_44 : decode cX3_sortAt 44 = .ok (.ireturn, 1) := by decide +kernel
theorem dX3_sortAt_45 : decode cX3_sortAt 45 = .ok (.iload_n 2, 1) := by decide +kernel
theorem dX3_sortAt_46 : decode cX3_sortAt 46 = .ok (.bipush 59, 2) := by decide +kernel
theorem dX3_sortAt_48 : decode cX3_sortAt 48 = .ok (.if_icmp .ne 7, 3) := by decide +kernel
theorem dX3_sortAt_51 : decode cX3_sortAt 51 = .ok (.iconst 3, 1) := by decide +kernel
theorem dX3_sortAt_52 : decode cX3_sortAt 52 = .ok (.goto 4, 3) := by decide +kernel
theorem dX3_sortAt_55 : decode cX3_sortAt 55 = .ok (.iconst 4, 1) := by decide +kernel
theorem dX3_sortAt_56 : decode cX3_sortAt 56 = .ok (.ireturn, 1) := by decide +kernel
theorem dX3_numberAtHand_0 : decode cX3_numberAtHand 0 = .ok (.iconst 0, 1) := by decide +kernel
theorem dX3_numberAtHand_1 : decode cX3_numberAtHand 1 = .ok (.istore_n 1, 1) := by decide +kernel
theorem dX3_numberAtHand_2 : decode cX3_numberAtHand 2 = .ok (.aload_n 0, 1) := by decide +kernel
theorem dX3_numberAtHand_3 : decode cX3_numberAtHand 3 = .ok (.getfield 29, 3) := by decide +kernel
theorem dX3_numberAtHand_6 : decode cX3_numberAtHand 6 = .ok (.istore_n 2, 1) := by decide +kernel
theorem dX3_numberAtHand_7 : decode cX3_numberAtHand 7 = .ok (.iload_n 2, 1) := by decide +kernel
theorem dX3_numberAtHand_8 : decode cX3_numberAtHand 8 = .ok (.aload_n 0, 1) := by decide +kernel
theorem dX3_numberAtHand_9 : decode cX3_numberAtHand 9 = .ok (.getfield 19, 3) := by decide +kernel
theorem dX3_numberAtHand_12 : decode cX3_numberAtHand 12 = .ok (.if_icmp .ge 31, 3) := by decide +kernel
theorem dX3_numberAtHand_15 : decode cX3_numberAtHand 15 = .ok (.iload_n 1, 1) := by decide +kernel
theorem dX3_numberAtHand_16 : decode cX3_numberAtHand 16 = .ok (.sipush 999, 3) := by decide +kernel
theorem dX3_numberAtHand_19 : decode cX3_numberAtHand 19 = .ok (.if_icmp .gt 24, 3) := by decide +kernel
theorem dX3_numberAtHand_22 : decode cX3_numberAtHand 22 = .ok (.bipush 10, 2) := by decide +kernel
theorem dX3_numberAtHand_24 : decode cX3_numberAtHand 24 = .ok (.iload_n 1, 1) := by decide +kernel
theorem dX3_numberAtHand_25 : decode cX3_numberAtHand 25 = .ok (.imul, 1) := by decide +kernel
theorem dX3_numberAtHand_26 : decode cX3_numberAtHand 26 = .ok (.aload_n 0, 1) := by decide +kernel
theorem dX3_numberAtHand_27 : decode cX3_numberAtHand 27 = .ok (.getfield 9, 3) := by decide +kernel
theorem dX3_numberAtHand_30 : decode cX3_numberAtHand 30 = .ok (.iload_n 2, 1) := by decide +kernel
theorem dX3_numberAtHand_31 : decode cX3_numberAtHand 31 = .ok (.iaload, 1) := by decide +kernel
theorem dX3_numberAtHand_32 : decode cX3_numberAtHand 32 = .ok (.iadd, 1) := by decide +kernel
theorem dX3_numberAtHand_33 : decode cX3_numberAtHand 33 = .ok (.bipush 48, 2) := by decide +kernel
theorem dX3_numberAtHand_35 : decode cX3_numberAtHand 35 = .ok (.isub, 1) := by decide +kernel
theorem dX3_numberAtHand_36 : decode cX3_numberAtHand 36 = .ok (.istore_n 1, 1) := by decide +kernel
theorem dX3_numberAtHand_37 : decode cX3_numberAtHand 37 = .ok (.iinc 2 1, 3) := by decide +kernel
theorem dX3_numberAtHand_40 : decode cX3_numberAtHand 40 = .ok (.goto (-33), 3) := by decide +kernel
theorem dX3_numberAtHand_43 : decode cX3_numberAtHand 43 = .ok (.iload_n 1, 1) := by decide +kernel
theorem dX3_numberAtHand_44 : decode cX3_numberAtHand 44 = .ok (.ireturn, 1) := by decide +kernel
