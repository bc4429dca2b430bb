theorem dX5_init_0 : decode cX5_init 0 = .ok (.aload_n 0, 1) := by decide +kernel
theorem dX5_init_1 : decode cX5_init 1 = .ok (.invokespecial 1, 3) := by decide +kernel
theorem dX5_init_4 : decode cX5_init 4 = .ok (.aload_n 0, 1) := by decide +kernel
theorem dX5_init_5 : decode cX5_init 5 = .ok (.bipush 101, 2) := by decide +kernel
theorem dX5_init_7 : decode cX5_init 7 = .ok (.newarray .int, 2) := by decide +kernel
theorem dX5_init_9 : decode cX5_init 9 = .ok (.putfield 7, 3) := by decide +kernel
theorem dX5_init_12 : decode cX5_init 12 = .ok (.aload_n 0, 1) := by decide +kernel
theorem dX5_init_13 : decode cX5_init 13 = .ok (.bipush 101, 2) := by decide +kernel
theorem dX5_init_15 : decode cX5_init 15 = .ok (.newarray .int, 2) := by decide +kernel
theorem dX5_init_17 : decode cX5_init 17 = .ok (.putfield 13, 3) := by decide +kernel
theorem dX5_init_20 : decode cX5_init 20 = .ok (.aload_n 0, 1) := by decide +kernel
theorem dX5_init_21 : decode cX5_init 21 = .ok (.bipush 101, 2) := by decide +kernel
theorem dX5_init_23 : decode cX5_init 23 = .ok (.newarray .int, 2) := by decide +kernel
theorem dX5_init_25 : decode cX5_init 25 = .ok (.putfield 16, 3) := by decide +kernel
theorem dX5_init_28 : decode cX5_init 28 = .ok (.aload_n 0, 1) := by decide +kernel
theorem dX5_init_29 : decode cX5_init 29 = .ok (.bipush 101, 2) := by decide +kernel
theorem dX5_init_31 : decode cX5_init 31 = .ok (.newarray .int, 2) := by decide +kernel
theorem dX5_init_33 : decode cX5_init 33 = .ok (.putfield 19, 3) := by decide +kernel
theorem dX5_init_36 : decode cX5_init 36 = .ok (.aload_n 0, 1) := by decide +kernel
theorem dX5_init_37 : decode cX5_init 37 = .ok (.bipush 101, 2) := by decide +kernel
theorem dX5_init_39 : decode cX5_init 39 = .ok (.newarray .int, 2) := by decide +kernel
theorem dX5_init_41 : decode cX5_init 41 = .ok (.putfield 22, 3) := by decide +kernel
theorem dX5_init_44 : decode cX5_init 44 = .ok (.aload_n 0, 1) := by decide +kernel
theorem dX5_init_45 : decode cX5_init 45 = .ok (.bipush 7, 2) := by decide +kernel
theorem dX5_init_47 : decode cX5_init 47 = .ok (.newarray .int, 2) := by decide +kernel
theorem dX5_init_49 : decode cX5_init 49 = .ok (.putfield 25, 3) := by decide +kernel
theorem dX5_init_52 : decode cX5_init 52 = .ok (.aload_n 0, 1) := by decide +kernel
theorem dX5_init_53 : decode cX5_init 53 = .ok (.bipush 8, 2) := by decide +kernel
theorem dX5_init_55 : decode cX5_init 55 = .ok (.newarray .int, 2) := by decide +kernel
theorem dX5_init_57 : decode cX5_init 57 = .ok (.putfield 28, 3) := by decide +kernel
theorem dX5_init_60 : decode cX5_init 60 = .ok (.aload_n 0, 1) := by decide +kernel
theorem dX5_init_61 : decode cX5_init 61 = .ok (.bipush 8, 2) := by decide +kernel
theorem dX5_init_63 : decode cX5_init 63 = .ok (.newarray .int, 2) := by decide +kernel
theorem dX5_init_65 : decode cX5_init 65 = .ok (.putfield 31, 3) := by decide +kernel
theorem dX5_init_68 : decode cX5_init 68 = .ok (.aload_n 0, 1) := by decide +kernel
theorem dX5_init_69 : decode cX5_init 69 = .ok (.bipush 120, 2) := by decide +kernel
theorem dX5_init_71 : decode cX5_init 71 = .ok (.newarray .int, 2) := by decide +kernel
theorem dX5_init_73 : decode cX5_init 73 = .ok (.putfield 34, 3) := by decide +kernel
theorem dX5_init_76 : decode cX5_init 76 = .ok (.aload_n 0, 1) := by decide +kernel
theorem dX5_init_77 : decode cX5_init 77 = .ok (.iconst 4, 1) := by decide +kernel
theorem dX5_init_78 : decode cX5_init 78 = .ok (.newarray .int, 2) := by decide +kernel
theorem dX5_init_80 : decode cX5_init 80 = .ok (.putfield 37, 3) := by decide +kernel
theorem dX5_init_83 : decode cX5_init 83 = .ok (.aload_n 0, 1) := by decide +kernel
theorem dX5_init_84 : decode cX5_init 84 = .ok (.iconst 4, 1) := by decide +kernel
theorem dX5_init_85 : decode cX5_init 85 = .ok (.newarray .int, 2) := by decide +kernel
theorem dX5_init_87 : decode cX5_init 87 = .ok (.putfield 40, 3) := by decide +kernel
theorem dX5_init_90 : decode cX5_init 90 = .ok (.aload_n 0, 1) := by decide +kernel
theorem dX5_init_91 : decode cX5_init 91 = .ok (.sipush 160, 3) := by decide +kernel
theorem dX5_init_94 : decode cX5_init 94 = .ok (.newarray .long, 2) := by decide +kernel
theorem dX5_init_96 : decode cX5_init 96 = .ok (.putfield 43, 3) := by decide +kernel
theorem dX5_init_99 : decode cX5_init 99 = .ok (.aload_n 0, 1) := by decide +kernel
theorem dX5_init_100 : decode cX5_init 100 = .ok (.bipush 40, 2) := by decide +kernel
theorem dX5_init_102 : decode cX5_init 102 = .ok (.newarray .long, 2) := by decide +kernel
theorem dX5_init_104 : decode cX5_init 104 = .ok (.putfield 47, 3) := by decide +kernel
theorem dX5_init_107 : decode cX5_init 107 = .ok (.return_, 1) := by decide +kernel
theorem dX5_in_0 : decode cX5_in 0 = .ok (.lload_n 0, 1) := by decide +kernel
theorem dX5_in_1 : decode cX5_in 1 = .ok (.lload_n 2, 1) := by decide +kernel
theorem dX5_in_2 : decode cX5_in 2 = .ok (.lcmp, 1) := by decide +kernel
theorem dX5_in_3 : decode cX5_in 3 = .ok (.ifCond .lt 14, 3) := by decide +kernel
theorem dX5_in_6 : decode cX5_in 6 = .ok (.lload_n 0, 1) := by decide +kernel
theorem dX5_in_7 : decode cX5_in 7 = .ok (.lload 4, 2) := by decide +kernel
theorem dX5_in_9 : decode cX5_in 9 = .ok (.lcmp, 1) := by decide +kernel
theorem dX5_in_10 : decode cX5_in 10 = .ok (.ifCond .gt 7, 3) := by decide +kernel
theorem dX5_in_13 : decode cX5_in 13 = .ok (.iconst 1, 1) := by decide +kernel
theorem dX5_in_14 : decode cX5_in 14 = .ok (.goto 4, 3) := by decide +kernel
theorem dX5_in_17 : decode cX5_in 17 = .ok (.iconst 0, 1) := by decide +kernel
theorem dX5_in_18 : decode cX5_in 18 = .ok (.ireturn, 1) := by decide +kernel
theorem dX5_finds_0 : decode cX5_finds 0 = .ok (.aload_n 0, 1) := by decide +kernel
theorem dX5_finds_1 : decode cX5_finds 1 = .ok (.getfield 25, 3) := by decide +kernel
theorem dX5_finds_4 : decode cX5_finds 4 = .ok (.ldc 50, 2) := by decide +kernel
theorem dX5_finds_6 : decode cX5_finds 6 = .ok (.iload_n 1, 1) := by decide +kernel
theorem dX5_finds_7 : decode cX5_finds 7 = .ok (.isub, 1) := by decide +kernel
theorem dX5_finds_8 : decode cX5_finds 8 = .ok (.dup2, 1) := by decide +kernel
theorem dX5_finds_9 : decode cX5_finds 9 = .ok (.iaload, 1) := by decide +kernel
theorem dX5_finds_10 : decode cX5_finds 10 = .ok (.iconst 1, 1) := by decide +kernel
theorem dX5_finds_11 : decode cX5_finds 11 = .ok (.iadd, 1) := by decide +kernel
theorem dX5_finds_12 : decode cX5_finds 12 = .ok (.iastore, 1) := by decide +kernel
theorem dX5_finds_13 : decode cX5_finds 13 = .ok (.iload_n 1, 1) := by decide +kernel
theorem dX5_finds_14 : decode cX5_finds 14 = .ok (.ireturn, 1) := by decide +kernel
theorem dX5_saves_0 : decode cX5_saves 0 = .ok (.iconst 0, 1) := by decide +kernel
theorem dX5_saves_1 : decode cX5_saves 1 = .ok (.istore_n 1, 1) := by decide +kernel
theorem dX5_saves_2 : decode cX5_saves 2 = .ok (.iload_n 1, 1) := by decide +kernel
theorem dX5_saves_3 : decode cX5_saves 3 = .ok (.bipush 101, 2) := by decide +kernel
theorem dX5_saves_5 : decode cX5_saves 5 = .ok (.if_icmp .ge 21, 3) := by decide +kernel
theorem dX5_saves_8 : decode cX5_saves 8 = .ok (.aload_n 0, 1) := by decide +kernel
theorem dX5_saves_9 : decode cX5_saves 9 = .ok (.getfield 16, 3) := by decide +kernel
theorem dX5_saves_12 : decode cX5_saves 12 = .ok (.iload_n 1, 1) := by decide +kernel
theorem dX5_saves_13 : decode cX5_saves 13 = .ok (.aload_n 0, 1) := by decide +kernel
theorem dX5_saves_14 : decode cX5_saves 14 = .ok (.getfield 7, 3) := by decide +kernel
theorem dX5_saves_17 : decode cX5_saves 17 = .ok (.iload_n 1, 1) := by decide +kernel
theorem dX5_saves_18 : decode cX5_saves 18 = .ok (.iaload, 1) := by decide +kernel
theorem dX5_saves_19 : decode cX5_saves 19 = .ok (.iastore, 1) := by decide +kernel
theorem dX5_saves_20 : decode cX5_saves 20 = .ok (.iinc 1 1, 3) := by decide +kernel
theorem dX5_saves_23 : decode cX5_saves 23 = .ok (.goto (-21), 3) := by decide +kernel
theorem dX5_saves_26 : decode cX5_saves 26 = .ok (.return_, 1) := by decide +kernel
theorem dX5_putsBack_0 : decode cX5_putsBack 0 = .ok (.iconst 0, 1) := by decide +kernel
theorem dX5_putsBack_1 : decode cX5_putsBack 1 = .ok (.istore_n 1, 1) := by decide +kernel
theorem dX5_putsBack_2 : decode cX5_putsBack 2 = .ok (.iload_n 1, 1) := by decide +kernel
theorem dX5_putsBack_3 : decode cX5_putsBack 3 = .ok (.bipush 101, 2) := by decide +kernel
theorem dX5_putsBack_5 : decode cX5_putsBack 5 = .ok (.if_icmp .ge 21, 3) := by decide +kernel
theorem dX5_putsBack_8 : decode cX5_putsBack 8 = .ok (.aload_n 0, 1) := by decide +kernel
theorem dX5_putsBack_9 : decode cX5_putsBack 9 = .ok (.getfield 7, 3) := by decide +kernel
theorem dX5_putsBack_12 : decode cX5_putsBack 12 = .ok (.iload_n 1, 1) := by decide +kernel
theorem dX5_putsBack_13 : decode cX5_putsBack 13 = .ok (.aload_n 0, 1) := by decide +kernel
theorem dX5_putsBack_14 : decode cX5_putsBack 14 = .ok (.getfield 16, 3) := by decide +kernel
theorem dX5_putsBack_17 : decode cX5_putsBack 17 = .ok (.iload_n 1, 1) := by decide +kernel
theorem dX5_putsBack_18 : decode cX5_putsBack 18 = .ok (.iaload, 1) := by decide +kernel
theorem dX5_putsBack_19 : decode cX5_putsBack 19 = .ok (.iastore, 1) := by decide +kernel
theorem dX5_putsBack_20 : decode cX5_putsBack 20 = .ok (.iinc 1 1, 3) := by decide +kernel
theorem dX5_putsBack_23 : decode cX5_putsBack 23 = .ok (.goto (-21), 3) := by decide +kernel
theorem dX5_putsBack_26 : decode cX5_putsBack 26 = .ok (.return_, 1) := by decide +kernel
theorem dX5_laysAside_0 : decode cX5_laysAside 0 = .ok (.iconst 0, 1) := by decide +kernel
theorem dX5_laysAside_1 : decode cX5_laysAside 1 = .ok (.istore_n 1, 1) := by decide +kernel
theorem dX5_laysAside_2 : decode cX5_laysAside 2 = .ok (.iload_n 1, 1) := by decide +kernel
theorem dX5_laysAside_3 : decode cX5_laysAside 3 = .ok (.bipush 101, 2) := by decide +kernel
theorem dX5_laysAside_5 : decode cX5_laysAside 5 = .ok (.if_icmp .ge 21, 3) := by decide +kernel
theorem dX5_laysAside_8 : decode cX5_laysAside 8 = .ok (.aload_n 0, 1) := by decide +kernel
theorem dX5_laysAside_9 : decode cX5_laysAside 9 = .ok (.getfield 19, 3) := by decide +kernel
theorem dX5_laysAside_12 : decode cX5_laysAside 12 = .ok (.iload_n 1, 1) := by decide +kernel
theorem dX5_laysAside_13 : decode cX5_laysAside 13 = .ok (.aload_n 0, 1) := by decide +kernel
theorem dX5_laysAside_14 : decode cX5_laysAside 14 = .ok (.getfield 7, 3) := by decide +kernel
theorem dX5_laysAside_17 : decode cX5_laysAside 17 = .ok (.iload_n 1, 1) := by decide +kernel
theorem dX5_laysAside_18 : decode cX5_laysAside 18 = .ok (.iaload, 1) := by decide +kernel
theorem dX5_laysAside_19 : decode cX5_laysAside 19 = .ok (.iastore, 1) := by decide +kernel
theorem dX5_laysAside_20 : decode cX5_laysAside 20 = .ok (.iinc 1 1, 3) := by decide +kernel
theorem dX5_laysAside_23 : decode cX5_laysAside 23 = .ok (.goto (-21), 3) := by decide +kernel
theorem dX5_laysAside_26 : decode cX5_laysAside 26 = .ok (.return_, 1) := by decide +kernel
theorem dX5_takesBack_0 : decode cX5_takesBack 0 = .ok (.iconst 0, 1) := by decide +kernel
theorem dX5_takesBack_1 : decode cX5_takesBack 1 = .ok (.istore_n 2, 1) := by decide +kernel
theorem dX5_takesBack_2 : decode cX5_takesBack 2 = .ok (.iload_n 2, 1) := by decide +kernel
theorem dX5_takesBack_3 : decode cX5_takesBack 3 = .ok (.bipush 101, 2) := by decide +kernel
theorem dX5_takesBack_5 : decode cX5_takesBack 5 = .ok (.if_icmp .ge 21, 3) := by decide +kernel
theorem dX5_takesBack_8 : decode cX5_takesBack 8 = .ok (.aload_n 0, 1) := by decide +kernel
theorem dX5_takesBack_9 : decode cX5_takesBack 9 = .ok (.getfield 7, 3) := by decide +kernel
theorem dX5_takesBack_12 : decode cX5_takesBack 12 = .ok (.iload_n 2, 1) := by decide +kernel
theorem dX5_takesBack_13 : decode cX5_takesBack 13 = .ok (.aload_n 0, 1) := by decide +kernel
theorem dX5_takesBack_14 : decode cX5_takesBack 14 = .ok (.getfield 19, 3) := by decide +kernel
theorem dX5_takesBack_17 : decode cX5_takesBack 17 = .ok (.iload_n 2, 1) := by decide +kernel
theorem dX5_takesBack_18 : decode cX5_takesBack 18 = .ok (.iaload, 1) := by decide +kernel
theorem dX5_takesBack_19 : decode cX5_takesBack 19 = .ok (.iastore, 1) := by decide +kernel
theorem dX5_takesBack_20 : decode cX5_takesBack 20 = .ok (.iinc 2 1, 3) := by decide +kernel
theorem dX5_takesBack_23 : decode cX5_takesBack 23 = .ok (.goto (-21), 3) := by decide +kernel
theorem dX5_takesBack_26 : decode cX5_takesBack 26 = .ok (.iload_n 1, 1) := by decide +kernel
theorem dX5_takesBack_27 : decode cX5_takesBack 27 = .ok (.ireturn, 1) := by decide +kernel
theorem dX5_becomes_0 : decode cX5_becomes 0 = .ok (.aload_n 0, 1) := by decide +kernel
theorem dX5_becomes_1 : decode cX5_becomes 1 = .ok (.getfield 7, 3) := by decide +kernel
theorem dX5_becomes_4 : decode cX5_becomes 4 = .ok (.iload_n 1, 1) := by decide +kernel
theorem dX5_becomes_5 : decode cX5_becomes 5 = .ok (.iaload, 1) := by decide +kernel
theorem dX5_becomes_6 : decode cX5_becomes 6 = .ok (.istore_n 3, 1) := by decide +kernel
theorem dX5_becomes_7 : decode cX5_becomes 7 = .ok (.aload_n 0, 1) := by decide +kernel
theorem dX5_becomes_8 : decode cX5_becomes 8 = .ok (.getfield 7, 3) := by decide +kernel
theorem dX5_becomes_11 : decode cX5_becomes 11 = .ok (.iload_n 1, 1) := by decide +kernel
theorem dX5_becomes_12 : decode cX5_becomes 12 = .ok (.iload_n 2, 1) := by decide +kernel
theorem dX5_becomes_13 : decode cX5_becomes 13 = .ok (.iastore, 1) := by decide +kernel
theorem dX5_becomes_14 : decode cX5_becomes 14 = .ok (.iload_n 3, 1) := by decide +kernel
theorem dX5_becomes_15 : decode cX5_becomes 15 = .ok (.ireturn, 1) := by decide +kernel
theorem dX5_isCell_0 : decode cX5_isCell 0 = .ok (.iload_n 0, 1) := by decide +kernel
theorem dX5_isCell_1 : decode cX5_isCell 1 = .ok (.i2l, 1) := by decide +kernel
theorem dX5_isCell_2 : decode cX5_isCell 2 = .ok (.lconst 0, 1) := by decide +kernel
theorem dX5_isCell_3 : decode cX5_isCell 3 = .ok (.ldc2_w 51, 3) := by decide +kernel
theorem dX5_isCell_6 : decode cX5_isCell 6 = .ok (.invokestatic 53, 3) := by decide +kernel
theorem dX5_isCell_9 : decode cX5_isCell 9 = .ok (.ireturn, 1) := by decide +kernel
theorem dX5_isKind_0 : decode cX5_isKind 0 = .ok (.iload_n 0, 1) := by decide +kernel
theorem dX5_isKind_1 : decode cX5_isKind 1 = .ok (.i2l, 1) := by decide +kernel
theorem dX5_isKind_2 : decode cX5_isKind 2 = .ok (.lconst 0, 1) := by decide +kernel
theorem dX5_isKind_3 : decode cX5_isKind 3 = .ok (.ldc2_w 57, 3) := by decide +kernel
theorem dX5_isKind_6 : decode cX5_isKind 6 = .ok (.invokestatic 53, 3) := by decide +kernel
theorem dX5_isKind_9 : decode cX5_isKind 9 = .ok (.ireturn, 1) := by decide +kernel
theorem dX5_isRange_0 : decode cX5_isRange 0 = .ok (.iload_n 1, 1) := by decide +kernel
theorem dX5_isRange_1 : decode cX5_isRange 1 = .ok (.i2l, 1) := by decide +kernel
theorem dX5_isRange_2 : decode cX5_isRange 2 = .ok (.lconst 0, 1) := by decide +kernel
theorem dX5_isRange_3 : decode cX5_isRange 3 = .ok (.aload_n 0, 1) := by decide +kernel
theorem dX5_isRange_4 : decode cX5_isRange 4 = .ok (.getfield 7, 3) := by decide +kernel
theorem dX5_isRange_7 : decode cX5_isRange 7 = .ok (.iconst 1, 1) := by decide +kernel
theorem dX5_isRange_8 : decode cX5_isRange 8 = .ok (.iaload, 1) := by decide +kernel
theorem dX5_isRange_9 : decode cX5_isRange 9 = .ok (.iconst 1, 1) := by decide +kernel
theorem dX5_isRange_10 : decode cX5_isRange 10 = .ok (.isub, 1) := by decide +kernel
theorem dX5_isRange_11 : decode cX5_isRange 11 = .ok (.i2l, 1) := by decide +kernel
theorem dX5_isRange_12 : decode cX5_isRange 12 = .ok (.invokestatic 53, 3) := by decide +kernel
theorem dX5_isRange_15 : decode cX5_isRange 15 = .ok (.ireturn, 1) := by decide +kernel
theorem dX5_isVillage_0 : decode cX5_isVillage 0 = .ok (.iload_n 1, 1) := by decide +kernel
theorem dX5_isVillage_1 : decode cX5_isVillage 1 = .ok (.i2l, 1) := by decide +kernel
theorem dX5_isVillage_2 : decode cX5_isVillage 2 = .ok (.lconst 0, 1) := by decide +kernel
theorem dX5_isVillage_3 : decode cX5_isVillage 3 = .ok (.aload_n 0, 1) := by decide +kernel
theorem dX5_isVillage_4 : decode cX5_isVillage 4 = .ok (.getfield 7, 3) := by decide +kernel
theorem dX5_isVillage_7 : decode cX5_isVillage 7 = .ok (.iconst 2, 1) := by decide +kernel
theorem dX5_isVillage_8 : decode cX5_isVillage 8 = .ok (.iaload, 1) := by decide +kernel
theorem dX5_isVillage_9 : decode cX5_isVillage 9 = .ok (.iconst 1, 1) := by decide +kernel
theorem dX5_isVillage_10 : decode cX5_isVillage 10 = .ok (.isub, 1) := by decide +kernel
theorem dX5_isVillage_11 : decode cX5_isVillage 11 = .ok (.i2l, 1) := by decide +kernel
theorem dX5_isVillage_12 : decode cX5_isVillage 12 = .ok (.invokestatic 53, 3) := by decide +kernel
theorem dX5_isVillage_15 : decode cX5_isVillage 15 = .ok (.ireturn, 1) := by decide +kernel
theorem dX5_spot_0 : decode cX5_spot 0 = .ok (.bipush 61, 2) := by decide +kernel
theorem dX5_spot_2 : decode cX5_spot 2 = .ok (.iconst 5, 1) := by decide +kernel
theorem dX5_spot_3 : decode cX5_spot 3 = .ok (.iload_n 0, 1) := by decide +kernel
theorem dX5_spot_4 : decode cX5_spot 4 = .ok (.imul, 1) := by decide +kernel
theorem dX5_spot_5 : decode cX5_spot 5 = .ok (.iadd, 1) := by decide +kernel
theorem dX5_spot_6 : decode cX5_spot 6 = .ok (.iload_n 1, 1) := by decide +kernel
theorem dX5_spot_7 : decode cX5_spot 7 = .ok (.iadd, 1) := by decide +kernel
theorem dX5_spot_8 : decode cX5_spot 8 = .ok (.ireturn, 1) := by decide +kernel
theorem dX5_its_0 : decode cX5_its 0 = .ok (.aload_n 0, 1) := by decide +kernel
theorem dX5_its_1 : decode cX5_its 1 = .ok (.getfield 7, 3) := by decide +kernel
theorem dX5_its_4 : decode cX5_its 4 = .ok (.iload_n 1, 1) := by decide +kernel
theorem dX5_its_5 : decode cX5_its 5 = .ok (.iload_n 2, 1) := by decide +kernel
theorem dX5_its_6 : decode cX5_its 6 = .ok (.invokestatic 59, 3) := by decide +kernel
theorem dX5_its_9 : decode cX5_its 9 = .ok (.iaload, 1) := by decide +kernel
theorem dX5_its_10 : decode cX5_its 10 = .ok (.ireturn, 1) := by decide +kernel
theorem dX5_behind_0 : decode cX5_behind 0 = .ok (.iload_n 0, 1) := by decide +kernel
theorem dX5_behind_1 : decode cX5_behind 1 = .ok (.bipush 23, 2) := by decide +kernel
theorem dX5_behind_3 : decode cX5_behind 3 = .ok (.if_icmp .ne 7, 3) := by decide +kernel
theorem dX5_behind_6 : decode cX5_behind 6 = .ok (.iconst 0, 1) := by decide +kernel
theorem dX5_behind_7 : decode cX5_behind 7 = .ok (.goto 6, 3) := by decide +kernel
theorem dX5_behind_10 : decode cX5_behind 10 = .ok (.iload_n 0, 1) := by decide +kernel
theorem dX5_behind_11 : decode cX5_behind 11 = .ok (.iconst 1, 1) := by decide +kernel
theorem dX5_behind_12 : decode cX5_behind 12 = .ok (.iadd, 1) := by decide +kernel
theorem dX5_behind_13 : decode cX5_behind 13 = .ok (.ireturn, 1) := by decide +kernel
theorem dX5_sumOf_0 : decode cX5_sumOf 0 = .ok (.iconst 0, 1) := by decide +kernel
theorem dX5_sumOf_1 : decode cX5_sumOf 1 = .ok (.istore_n 2, 1) := by decide +kernel
theorem dX5_sumOf_2 : decode cX5_sumOf 2 = .ok (.iconst 0, 1) := by decide +kernel
theorem dX5_sumOf_3 : decode cX5_sumOf 3 = .ok (.istore_n 3, 1) := by decide +kernel
theorem dX5_sumOf_4 : decode cX5_sumOf 4 = .ok (.iload_n 3, 1) := by decide +kernel
theorem dX5_sumOf_5 : decode cX5_sumOf 5 = .ok (.aload_n 0, 1) := by decide +kernel
theorem dX5_sumOf_6 : decode cX5_sumOf 6 = .ok (.getfield 7, 3) := by decide +kernel
theorem dX5_sumOf_9 : decode cX5_sumOf 9 = .ok (.iconst 1, 1) := by decide +kernel
theorem dX5_sumOf_10 : decode cX5_sumOf 10 = .ok (.iaload, 1) := by decide +kernel
theorem dX5_sumOf_11 : decode cX5_sumOf 11 = .ok (.if_icmp .ge 18, 3) := by decide +kernel
theorem dX5_sumOf_14 : decode cX5_sumOf 14 = .ok (.iload_n 2, 1) := by decide +kernel
theorem dX5_sumOf_15 : decode cX5_sumOf 15 = .ok (.aload_n 0, 1) := by decide +kernel
theorem dX5_sumOf_16 : decode cX5_sumOf 16 = .ok (.iload_n 3, 1) := by decide +kernel
theorem dX5_sumOf_17 : decode cX5_sumOf 17 = .ok (.iload_n 1, 1) := by decide +kernel
theorem dX5_sumOf_18 : decode cX5_sumOf 18 = .ok (.invokevirtual 63, 3) := by decide +kernel
theorem dX5_sumOf_21 : decode cX5_sumOf 21 = .ok (.iadd, 1) := by decide +kernel
theorem dX5_sumOf_22 : decode cX5_sumOf 22 = .ok (.istore_n 2, 1) := by decide +kernel
theorem dX5_sumOf_23 : decode cX5_sumOf 23 = .ok (.iinc 3 1, 3) := by decide +kernel
theorem dX5_sumOf_26 : decode cX5_sumOf 26 = .ok (.goto (-22), 3) := by decide +kernel
theorem dX5_sumOf_29 : decode cX5_sumOf 29 = .ok (.iload_n 2, 1) := by decide +kernel
theorem dX5_sumOf_30 : decode cX5_sumOf 30 = .ok (.ireturn, 1) := by decide +kernel
theorem dX5_laysPass_0 : decode cX5_laysPass 0 = .ok (.aload_n 0, 1) := by decide +kernel
theorem dX5_laysPass_1 : decode cX5_laysPass 1 = .ok (.getfield 7, 3) := by decide +kernel
theorem dX5_laysPass_4 : decode cX5_laysPass 4 = .ok (.bipush 7, 2) := by decide +kernel
theorem dX5_laysPass_6 : decode cX5_laysPass 6 = .ok (.iload_n 1, 1) := by decide +kernel
theorem dX5_laysPass_7 : decode cX5_laysPass 7 = .ok (.iadd, 1) := by decide +kernel
theorem dX5_laysPass_8 : decode cX5_laysPass 8 = .ok (.iload_n 2, 1) := by decide +kernel
theorem dX5_laysPass_9 : decode cX5_laysPass 9 = .ok (.iastore, 1) := by decide +kernel
theorem dX5_laysPass_10 : decode cX5_laysPass 10 = .ok (.aload_n 0, 1) := by decide +kernel
theorem dX5_laysPass_11 : decode cX5_laysPass 11 = .ok (.getfield 7, 3) := by decide +kernel
theorem dX5_laysPass_14 : decode cX5_laysPass 14 = .ok (.bipush 31, 2) := by decide +kernel
theorem dX5_laysPass_16 : decode cX5_laysPass 16 = .ok (.iload_n 1, 1) := by decide +kernel
theorem dX5_laysPass_17 : decode cX5_laysPass 17 = .ok (.iadd, 1) := by decide +kernel
theorem dX5_laysPass_18 : decode cX5_laysPass 18 = .ok (.iload_n 2, 1) := by decide +kernel
theorem dX5_laysPass_19 : decode cX5_laysPass 19 = .ok (.ifCond .ne 7, 3) := by decide +kernel
theorem dX5_laysPass_22 : decode cX5_laysPass 22 = .ok (.iconst 0, 1) := by decide +kernel
theorem dX5_laysPass_23 : decode cX5_laysPass 23 = .ok (.goto 4, 3) := by decide +kernel
theorem dX5_laysPass_26 : decode cX5_laysPass 26 = .ok (.iload_n 3, 1) := by decide +kernel
theorem dX5_laysPass_27 : decode cX5_laysPass 27 = .ok (.iastore, 1) := by decide +kernel
theorem dX5_laysPass_28 : decode cX5_laysPass 28 = .ok (.return_, 1) := by decide +kernel
theorem dX5_pass_0 : decode cX5_pass 0 = .ok (.iload_n 1, 1) := by decide +kernel
theorem dX5_pass_1 : decode cX5_pass 1 = .ok (.invokestatic 66, 3) := by decide +kernel
theorem dX5_pass_4 : decode cX5_pass 4 = .ok (.ifCond .eq 32, 3) := by decide +kernel
theorem dX5_pass_7 : decode cX5_pass 7 = .ok (.iload_n 2, 1) := by decide +kernel
theorem dX5_pass_8 : decode cX5_pass 8 = .ok (.ifCond .eq 35, 3) := by decide +kernel
theorem dX5_pass_11 : decode cX5_pass 11 = .ok (.iload_n 2, 1) := by decide +kernel
theorem dX5_pass_12 : decode cX5_pass 12 = .ok (.i2l, 1) := by decide +kernel
theorem dX5_pass_13 : decode cX5_pass 13 = .ok (.ldc2_w 70, 3) := by decide +kernel
theorem dX5_pass_16 : decode cX5_pass 16 = .ok (.ldc2_w 72, 3) := by decide +kernel
theorem dX5_pass_19 : decode cX5_pass 19 = .ok (.invokestatic 53, 3) := by decide +kernel
theorem dX5_pass_22 : decode cX5_pass 22 = .ok (.ifCond .eq 14, 3) := by decide +kernel
theorem dX5_pass_25 : decode cX5_pass 25 = .ok (.iload_n 3, 1) := by decide +kernel
theorem dX5_pass_26 : decode cX5_pass 26 = .ok (.i2l, 1) := by decide +kernel
theorem dX5_pass_27 : decode cX5_pass 27 = .ok (.lconst 0, 1) := by decide +kernel
theorem dX5_pass_28 : decode cX5_pass 28 = .ok (.iload_n 2, 1) := by decide +kernel
theorem dX5_pass_29 : decode cX5_pass 29 = .ok (.i2l, 1) := by decide +kernel
theorem dX5_pass_30 : decode cX5_pass 30 = .ok (.invokestatic 53, 3) := by decide +kernel
theorem dX5_pass_33 : decode cX5_pass 33 = .ok (.ifCond .ne 10, 3) := by decide +kernel
theorem dX5_pass_36 : decode cX5_pass 36 = .ok (.aload_n 0, 1) := by decide +kernel
theorem dX5_pass_37 : decode cX5_pass 37 = .ok (.ldc 50, 2) := by decide +kernel
theorem dX5_pass_39 : decode cX5_pass 39 = .ok (.invokevirtual 74, 3) := by decide +kernel
theorem dX5_pass_42 : decode cX5_pass 42 = .ok (.ireturn, 1) := by decide +kernel
theorem dX5_pass_43 : decode cX5_pass 43 = .ok (.aload_n 0, 1) := by decide +kernel
theorem dX5_pass_44 : decode cX5_pass 44 = .ok (.getfield 7, 3) := by decide +kernel
theorem dX5_pass_47 : decode cX5_pass 47 = .ok (.bipush 7, 2) := by decide +kernel
theorem dX5_pass_49 : decode cX5_pass 49 = .ok (.iload_n 1, 1) := by decide +kernel
theorem dX5_pass_50 : decode cX5_pass 50 = .ok (.iadd, 1) := by decide +kernel
theorem dX5_pass_51 : decode cX5_pass 51 = .ok (.iaload, 1) := by decide +kernel
theorem dX5_pass_52 : decode cX5_pass 52 = .ok (.ifCond .le 7, 3) := by decide +kernel
theorem dX5_pass_55 : decode cX5_pass 55 = .ok (.iconst 1, 1) := by decide +kernel
theorem dX5_pass_56 : decode cX5_pass 56 = .ok (.goto 4, 3) := by decide +kernel
theorem dX5_pass_59 : decode cX5_pass 59 = .ok (.iconst 0, 1) := by decide +kernel
theorem dX5_pass_60 : decode cX5_pass 60 = .ok (.istore 4, 2) := by decide +kernel
theorem dX5_pass_62 : decode cX5_pass 62 = .ok (.aload_n 0, 1) := by decide +kernel
theorem dX5_pass_63 : decode cX5_pass 63 = .ok (.iload_n 1, 1) := by decide +kernel
theorem dX5_pass_64 : decode cX5_pass 64 = .ok (.iload_n 2, 1) := by decide +kernel
theorem dX5_pass_65 : decode cX5_pass 65 = .ok (.iload_n 3, 1) := by decide +kernel
theorem dX5_pass_66 : decode cX5_pass 66 = .ok (.invokevirtual 78, 3) := by decide +kernel
theorem dX5_pass_69 : decode cX5_pass 69 = .ok (.iload 4, 2) := by decide +kernel
theorem dX5_pass_71 : decode cX5_pass 71 = .ok (.ireturn, 1) := by decide +kernel
theorem dX5_isOpen_0 : decode cX5_isOpen 0 = .ok (.aload_n 0, 1) := by decide +kernel
theorem dX5_isOpen_1 : decode cX5_isOpen 1 = .ok (.getfield 7, 3) := by decide +kernel
theorem dX5_isOpen_4 : decode cX5_isOpen 4 = .ok (.bipush 7, 2) := by decide +kernel
theorem dX5_isOpen_6 : decode cX5_isOpen 6 = .ok (.iload_n 1, 1) := by decide +kernel
theorem dX5_isOpen_7 : decode cX5_isOpen 7 = .ok (.iadd, 1) := by decide +kernel
theorem dX5_isOpen_8 : decode cX5_isOpen 8 = .ok (.iaload, 1) := by decide +kernel
theorem dX5_isOpen_9 : decode cX5_isOpen 9 = .ok (.ifCond .eq 31, 3) := by decide +kernel
theorem dX5_isOpen_12 : decode cX5_isOpen 12 = .ok (.aload_n 0, 1) := by decide +kernel
theorem dX5_isOpen_13 : decode cX5_isOpen 13 = .ok (.getfield 7, 3) := by decide +kernel
theorem dX5_isOpen_16 : decode cX5_isOpen 16 = .ok (.iconst 0, 1) := by decide +kernel
theorem dX5_isOpen_17 : decode cX5_isOpen 17 = .ok (.iaload, 1) := by decide +kernel
theorem dX5_isOpen_18 : decode cX5_isOpen 18 = .ok (.aload_n 0, 1) := by decide +kernel
theorem dX5_isOpen_19 : decode cX5_isOpen 19 = .ok (.getfield 7, 3) := by decide +kernel
theorem dX5_isOpen_22 : decode cX5_isOpen 22 = .ok (.bipush 7, 2) := by decide +kernel
theorem dX5_isOpen_24 : decode cX5_isOpen 24 = .ok (.iload_n 1, 1) := by decide +kernel
theorem dX5_isOpen_25 : decode cX5_isOpen 25 = .ok (.iadd, 1) := by decide +kernel
theorem dX5_isOpen_26 : decode cX5_isOpen 26 = .ok (.iaload, 1) := by decide +kernel
theorem dX5_isOpen_27 : decode cX5_isOpen 27 = .ok (.irem, 1) := by decide +kernel
theorem dX5_isOpen_28 : decode cX5_isOpen 28 = .ok (.aload_n 0, 1) := by decide +kernel
theorem dX5_isOpen_29 : decode cX5_isOpen 29 = .ok (.getfield 7, 3) := by decide +kernel
theorem dX5_isOpen_32 : decode cX5_isOpen 32 = .ok (.bipush 31, 2) := by decide +kernel
theorem dX5_isOpen_34 : decode cX5_isOpen 34 = .ok (.iload_n 1, 1) := by decide +kernel
theorem dX5_isOpen_35 : decode cX5_isOpen 35 = .ok (.iadd, 1) := by decide +kernel
theorem dX5_isOpen_36 : decode cX5_isOpen 36 = .ok (.iaload, 1) := by decide +kernel
theorem dX5_isOpen_37 : decode cX5_isOpen 37 = .ok (.if_icmp .ge 7, 3) := by decide +kernel
theorem dX5_isOpen_40 : decode cX5_isOpen 40 = .ok (.iconst 1, 1) := by decide +kernel
theorem dX5_isOpen_41 : decode cX5_isOpen 41 = .ok (.goto 4, 3) := by decide +kernel
theorem dX5_isOpen_44 : decode cX5_isOpen 44 = .ok (.iconst 0, 1) := by decide +kernel
theorem dX5_isOpen_45 : decode cX5_isOpen 45 = .ok (.ireturn, 1) := by decide +kernel
theorem dX5_isIn_0 : decode cX5_isIn 0 = .ok (.iconst (-1), 1) := by decide +kernel
theorem dX5_isIn_1 : decode cX5_isIn 1 = .ok (.istore_n 2, 1) := by decide +kernel
theorem dX5_isIn_2 : decode cX5_isIn 2 = .ok (.iconst 0, 1) := by decide +kernel
theorem dX5_isIn_3 : decode cX5_isIn 3 = .ok (.istore_n 3, 1) := by decide +kernel
theorem dX5_isIn_4 : decode cX5_isIn 4 = .ok (.iload_n 3, 1) := by decide +kernel
theorem dX5_isIn_5 : decode cX5_isIn 5 = .ok (.aload_n 0, 1) := by decide +kernel
theorem dX5_isIn_6 : decode cX5_isIn 6 = .ok (.getfield 7, 3) := by decide +kernel
theorem dX5_isIn_9 : decode cX5_isIn 9 = .ok (.iconst 1, 1) := by decide +kernel
theorem dX5_isIn_10 : decode cX5_isIn 10 = .ok (.iaload, 1) := by decide +kernel
theorem dX5_isIn_11 : decode cX5_isIn 11 = .ok (.if_icmp .ge 25, 3) := by decide +kernel
theorem dX5_isIn_14 : decode cX5_isIn 14 = .ok (.aload_n 0, 1) := by decide +kernel
theorem dX5_isIn_15 : decode cX5_isIn 15 = .ok (.iload_n 3, 1) := by decide +kernel
theorem dX5_isIn_16 : decode cX5_isIn 16 = .ok (.iconst 1, 1) := by decide +kernel
theorem dX5_isIn_17 : decode cX5_isIn 17 = .ok (.invokevirtual 63, 3) := by decide +kernel
theorem dX5_isIn_20 : decode cX5_isIn 20 = .ok (.iload_n 1, 1) := by decide +kernel
theorem dX5_isIn_21 : decode cX5_isIn 21 = .ok (.if_icmp .ne 7, 3) := by decide +kernel
theorem dX5_isIn_24 : decode cX5_isIn 24 = .ok (.iload_n 3, 1) := by decide +kernel
theorem dX5_isIn_25 : decode cX5_isIn 25 = .ok (.goto 4, 3) := by decide +kernel
theorem dX5_isIn_28 : decode cX5_isIn 28 = .ok (.iload_n 2, 1) := by decide +kernel
theorem dX5_isIn_29 : decode cX5_isIn 29 = .ok (.istore_n 2, 1) := by decide +kernel
theorem dX5_isIn_30 : decode cX5_isIn 30 = .ok (.iinc 3 1, 3) := by decide +kernel
theorem dX5_isIn_33 : decode cX5_isIn 33 = .ok (.goto (-29), 3) := by decide +kernel
theorem dX5_isIn_36 : decode cX5_isIn 36 = .ok (.iload_n 2, 1) := by decide +kernel
theorem dX5_isIn_37 : decode cX5_isIn 37 = .ok (.ireturn, 1) := by decide +kernel
theorem dX5_cell_0 : decode cX5_cell 0 = .ok (.iload_n 1, 1) := by decide +kernel
theorem dX5_cell_1 : decode cX5_cell 1 = .ok (.invokestatic 66, 3) := by decide +kernel
theorem dX5_cell_4 : decode cX5_cell 4 = .ok (.ifCond .eq 15, 3) := by decide +kernel
theorem dX5_cell_7 : decode cX5_cell 7 = .ok (.iload_n 2, 1) := by decide +kernel
theorem dX5_cell_8 : decode cX5_cell 8 = .ok (.i2l, 1) := by decide +kernel
theorem dX5_cell_9 : decode cX5_cell 9 = .ok (.lconst 0, 1) := by decide +kernel
theorem dX5_cell_10 : decode cX5_cell 10 = .ok (.ldc2_w 82, 3) := by decide +kernel
theorem dX5_cell_13 : decode cX5_cell 13 = .ok (.invokestatic 53, 3) := by decide +kernel
theorem dX5_cell_16 : decode cX5_cell 16 = .ok (.ifCond .ne 10, 3) := by decide +kernel
theorem dX5_cell_19 : decode cX5_cell 19 = .ok (.aload_n 0, 1) := by decide +kernel
theorem dX5_cell_20 : decode cX5_cell 20 = .ok (.ldc 50, 2) := by decide +kernel
theorem dX5_cell_22 : decode cX5_cell 22 = .ok (.invokevirtual 74, 3) := by decide +kernel
theorem dX5_cell_25 : decode cX5_cell 25 = .ok (.ireturn, 1) := by decide +kernel
theorem dX5_cell_26 : decode cX5_cell 26 = .ok (.iload_n 2, 1) := by decide +kernel
theorem dX5_cell_27 : decode cX5_cell 27 = .ok (.tableswitch 59 0 2 #[25, 35, 45], 25) := by decide +kernel
theorem dX5_cell_52 : decode cX5_cell 52 = .ok (.aload_n 0, 1) := by decide +kernel
theorem dX5_cell_53 : decode cX5_cell 53 = .ok (.getfield 7, 3) := by decide +kernel
theorem dX5_cell_56 : decode cX5_cell 56 = .ok (.bipush 7, 2) := by decide +kernel
theorem dX5_cell_58 : decode cX5_cell 58 = .ok (.iload_n 1, 1) := by decide +kernel
theorem dX5_cell_59 : decode cX5_cell 59 = .ok (.iadd, 1) := by decide +kernel
theorem dX5_cell_60 : decode cX5_cell 60 = .ok (.iaload, 1) := by decide +kernel
theorem dX5_cell_61 : decode cX5_cell 61 = .ok (.ireturn, 1) := by decide +kernel
theorem dX5_cell_62 : decode cX5_cell 62 = .ok (.aload_n 0, 1) := by decide +kernel
theorem dX5_cell_63 : decode cX5_cell 63 = .ok (.getfield 7, 3) := by decide +kernel
theorem dX5_cell_66 : decode cX5_cell 66 = .ok (.bipush 31, 2) := by decide +kernel
theorem dX5_cell_68 : decode cX5_cell 68 = .ok (.iload_n 1, 1) := by decide +kernel
theorem dX5_cell_69 : decode cX5_cell 69 = .ok (.iadd, 1) := by decide +kernel
theorem dX5_cell_70 : decode cX5_cell 70 = .ok (.iaload, 1) := by decide +kernel
theorem dX5_cell_71 : decode cX5_cell 71 = .ok (.ireturn, 1) := by decide +kernel
theorem dX5_cell_72 : decode cX5_cell 72 = .ok (.aload_n 0, 1) := by decide +kernel
theorem dX5_cell_73 : decode cX5_cell 73 = .ok (.iload_n 1, 1) := by decide +kernel
theorem dX5_cell_74 : decode cX5_cell 74 = .ok (.invokevirtual 84, 3) := by decide +kernel
theorem dX5_cell_77 : decode cX5_cell 77 = .ok (.ifCond .eq 7, 3) := by decide +kernel
theorem dX5_cell_80 : decode cX5_cell 80 = .ok (.iconst 1, 1) := by decide +kernel
theorem dX5_cell_81 : decode cX5_cell 81 = .ok (.goto 4, 3) := by decide +kernel
theorem dX5_cell_84 : decode cX5_cell 84 = .ok (.iconst 0, 1) := by decide +kernel
theorem dX5_cell_85 : decode cX5_cell 85 = .ok (.ireturn, 1) := by decide +kernel
theorem dX5_cell_86 : decode cX5_cell 86 = .ok (.aload_n 0, 1) := by decide +kernel
theorem dX5_cell_87 : decode cX5_cell 87 = .ok (.iload_n 1, 1) := by decide +kernel
theorem dX5_cell_88 : decode cX5_cell 88 = .ok (.invokevirtual 87, 3) := by decide +kernel
theorem dX5_cell_91 : decode cX5_cell 91 = .ok (.ireturn, 1) := by decide +kernel
theorem dX5_village_0 : decode cX5_village 0 = .ok (.iload_n 1, 1) := by decide +kernel
theorem dX5_village_1 : decode cX5_village 1 = .ok (.invokestatic 66, 3) := by decide +kernel
theorem dX5_village_4 : decode cX5_village 4 = .ok (.ifCond .ne 10, 3) := by decide +kernel
theorem dX5_village_7 : decode cX5_village 7 = .ok (.aload_n 0, 1) := by decide +kernel
theorem dX5_village_8 : decode cX5_village 8 = .ok (.ldc 50, 2) := by decide +kernel
theorem dX5_village_10 : decode cX5_village 10 = .ok (.invokevirtual 74, 3) := by decide +kernel
theorem dX5_village_13 : decode cX5_village 13 = .ok (.ireturn, 1) := by decide +kernel
theorem dX5_village_14 : decode cX5_village 14 = .ok (.aload_n 0, 1) := by decide +kernel
theorem dX5_village_15 : decode cX5_village 15 = .ok (.getfield 7, 3) := by decide +kernel
theorem dX5_village_18 : decode cX5_village 18 = .ok (.iconst 2, 1) := by decide +kernel
theorem dX5_village_19 : decode cX5_village 19 = .ok (.iaload, 1) := by decide +kernel
theorem dX5_village_20 : decode cX5_village 20 = .ok (.bipush 6, 2) := by decide +kernel
theorem dX5_village_22 : decode cX5_village 22 = .ok (.if_icmp .ne 10, 3) := by decide +kernel
theorem dX5_village_25 : decode cX5_village 25 = .ok (.aload_n 0, 1) := by decide +kernel
theorem dX5_village_26 : decode cX5_village 26 = .ok (.ldc 90, 2) := by decide +kernel
theorem dX5_village_28 : decode cX5_village 28 = .ok (.invokevirtual 74, 3) := by decide +kernel
theorem dX5_village_31 : decode cX5_village 31 = .ok (.ireturn, 1) := by decide +kernel
theorem dX5_village_32 : decode cX5_village 32 = .ok (.aload_n 0, 1) := by decide +kernel
theorem dX5_village_33 : decode cX5_village 33 = .ok (.getfield 7, 3) := by decide +kernel
theorem dX5_village_36 : decode cX5_village 36 = .ok (.bipush 55, 2) := by decide +kernel
theorem dX5_village_38 : decode cX5_village 38 = .ok (.aload_n 0, 1) := by decide +kernel
theorem dX5_village_39 : decode cX5_village 39 = .ok (.getfield 7, 3) := by decide +kernel
theorem dX5_village_42 : decode cX5_village 42 = .ok (.iconst 2, 1) := by decide +kernel
theorem dX5_village_43 : decode cX5_village 43 = .ok (.iaload, 1) := by decide +kernel
theorem dX5_village_44 : decode cX5_village 44 = .ok (.iadd, 1) := by decide +kernel
theorem dX5_village_45 : decode cX5_village 45 = .ok (.iload_n 1, 1) := by decide +kernel
theorem dX5_village_46 : decode cX5_village 46 = .ok (.iastore, 1) := by decide +kernel
theorem dX5_village_47 : decode cX5_village 47 = .ok (.aload_n 0, 1) := by decide +kernel
theorem dX5_village_48 : decode cX5_village 48 = .ok (.getfield 7, 3) := by decide +kernel
theorem dX5_village_51 : decode cX5_village 51 = .ok (.iconst 2, 1) := by decide +kernel
theorem dX5_village_52 : decode cX5_village 52 = .ok (.dup2, 1) := by decide +kernel
theorem dX5_village_53 : decode cX5_village 53 = .ok (.iaload, 1) := by decide +kernel
theorem dX5_village_54 : decode cX5_village 54 = .ok (.iconst 1, 1) := by decide +kernel
theorem dX5_village_55 : decode cX5_village 55 = .ok (.iadd, 1) := by decide +kernel
theorem dX5_village_56 : decode cX5_village 56 = .ok (.iastore, 1) := by decide +kernel
theorem dX5_village_57 : decode cX5_village 57 = .ok (.aload_n 0, 1) := by decide +kernel
theorem dX5_village_58 : decode cX5_village 58 = .ok (.getfield 7, 3) := by decide +kernel
theorem dX5_village_61 : decode cX5_village 61 = .ok (.iconst 2, 1) := by decide +kernel
theorem dX5_village_62 : decode cX5_village 62 = .ok (.iaload, 1) := by decide +kernel
theorem dX5_village_63 : decode cX5_village 63 = .ok (.iconst 1, 1) := by decide +kernel
theorem dX5_village_64 : decode cX5_village 64 = .ok (.isub, 1) := by decide +kernel
theorem dX5_village_65 : decode cX5_village 65 = .ok (.ireturn, 1) := by decide +kernel
theorem dX5_isLit_0 : decode cX5_isLit 0 = .ok (.aload_n 0, 1) := by decide +kernel
theorem dX5_isLit_1 : decode cX5_isLit 1 = .ok (.getfield 7, 3) := by decide +kernel
theorem dX5_isLit_4 : decode cX5_isLit 4 = .ok (.bipush 55, 2) := by decide +kernel
theorem dX5_isLit_6 : decode cX5_isLit 6 = .ok (.iload_n 1, 1) := by decide +kernel
theorem dX5_isLit_7 : decode cX5_isLit 7 = .ok (.iadd, 1) := by decide +kernel
theorem dX5_isLit_8 : decode cX5_isLit 8 = .ok (.iaload, 1) := by decide +kernel
theorem dX5_isLit_9 : decode cX5_isLit 9 = .ok (.istore_n 2, 1) := by decide +kernel
theorem dX5_isLit_10 : decode cX5_isLit 10 = .ok (.aload_n 0, 1) := by decide +kernel
theorem dX5_isLit_11 : decode cX5_isLit 11 = .ok (.iload_n 2, 1) := by decide +kernel
theorem dX5_isLit_12 : decode cX5_isLit 12 = .ok (.invokevirtual 87, 3) := by decide +kernel
theorem dX5_isLit_15 : decode cX5_isLit 15 = .ok (.ifCond .ge 18, 3) := by decide +kernel
theorem dX5_isLit_18 : decode cX5_isLit 18 = .ok (.aload_n 0, 1) := by decide +kernel
theorem dX5_isLit_19 : decode cX5_isLit 19 = .ok (.iload_n 2, 1) := by decide +kernel
theorem dX5_isLit_20 : decode cX5_isLit 20 = .ok (.invokestatic 91, 3) := by decide +kernel
theorem dX5_isLit_23 : decode cX5_isLit 23 = .ok (.invokevirtual 87, 3) := by decide +kernel
theorem dX5_isLit_26 : decode cX5_isLit 26 = .ok (.ifCond .ge 7, 3) := by decide +kernel
theorem dX5_isLit_29 : decode cX5_isLit 29 = .ok (.iconst 1, 1) := by decide +kernel
theorem dX5_isLit_30 : decode cX5_isLit 30 = .ok (.goto 4, 3) := by decide +kernel
theorem dX5_isLit_33 : decode cX5_isLit 33 = .ok (.iconst 0, 1) := by decide +kernel
theorem dX5_isLit_34 : decode cX5_isLit 34 = .ok (.ireturn, 1) := by decide +kernel
theorem dX5_villageOf_0 : decode cX5_villageOf 0 = .ok (.aload_n 0, 1) := by decide +kernel
theorem dX5_villageOf_1 : decode cX5_villageOf 1 = .ok (.iload_n 1, 1) := by decide +kernel
theorem dX5_villageOf_2 : decode cX5_villageOf 2 = .ok (.invokevirtual 94, 3) := by decide +kernel
theorem dX5_villageOf_5 : decode cX5_villageOf 5 = .ok (.ifCond .eq 13, 3) := by decide +kernel
theorem dX5_villageOf_8 : decode cX5_villageOf 8 = .ok (.iload_n 2, 1) := by decide +kernel
theorem dX5_villageOf_9 : decode cX5_villageOf 9 = .ok (.i2l, 1) := by decide +kernel
theorem dX5_villageOf_10 : decode cX5_villageOf 10 = .ok (.lconst 0, 1) := by decide +kernel
theorem dX5_villageOf_11 : decode cX5_villageOf 11 = .ok (.lconst 1, 1) := by decide +kernel
theorem dX5_villageOf_12 : decode cX5_villageOf 12 = .ok (.invokestatic 53, 3) := by decide +kernel
theorem dX5_villageOf_15 : decode cX5_villageOf 15 = .ok (.ifCond .ne 10, 3) := by decide +kernel
theorem dX5_villageOf_18 : decode cX5_villageOf 18 = .ok (.aload_n 0, 1) := by decide +kernel
theorem dX5_villageOf_19 : decode cX5_villageOf 19 = .ok (.ldc 50, 2) := by decide +kernel
theorem dX5_villageOf_21 : decode cX5_villageOf 21 = .ok (.invokevirtual 74, 3) := by decide +kernel
theorem dX5_villageOf_24 : decode cX5_villageOf 24 = .ok (.ireturn, 1) := by decide +kernel
theorem dX5_villageOf_25 : decode cX5_villageOf 25 = .ok (.iload_n 2, 1) := by decide +kernel
theorem dX5_villageOf_26 : decode cX5_villageOf 26 = .ok (.ifCond .ne 15, 3) := by decide +kernel
theorem dX5_villageOf_29 : decode cX5_villageOf 29 = .ok (.aload_n 0, 1) := by decide +kernel
theorem dX5_villageOf_30 : decode cX5_villageOf 30 = .ok (.getfield 7, 3) := by decide +kernel
theorem dX5_villageOf_33 : decode cX5_villageOf 33 = .ok (.bipush 55, 2) := by decide +kernel
theorem dX5_villageOf_35 : decode cX5_villageOf 35 = .ok (.iload_n 1, 1) := by decide +kernel
theorem dX5_villageOf_36 : decode cX5_villageOf 36 = .ok (.iadd, 1) := by decide +kernel
theorem dX5_villageOf_37 : decode cX5_villageOf 37 = .ok (.iaload, 1) := by decide +kernel
theorem dX5_villageOf_38 : decode cX5_villageOf 38 = .ok (.goto 16, 3) := by decide +kernel
theorem dX5_villageOf_41 : decode cX5_villageOf 41 = .ok (.aload_n 0, 1) := by decide +kernel
theorem dX5_villageOf_42 : decode cX5_villageOf 42 = .ok (.iload_n 1, 1) := by decide +kernel
theorem dX5_villageOf_43 : decode cX5_villageOf 43 = .ok (.invokevirtual 97, 3) := by decide +kernel
theorem dX5_villageOf_46 : decode cX5_villageOf 46 = .ok (.ifCond .eq 7, 3) := by decide +kernel
theorem dX5_villageOf_49 : decode cX5_villageOf 49 = .ok (.iconst 1, 1) := by decide +kernel
theorem dX5_villageOf_50 : decode cX5_villageOf 50 = .ok (.goto 4, 3) := by decide +kernel
theorem dX5_villageOf_53 : decode cX5_villageOf 53 = .ok (.iconst 0, 1) := by decide +kernel
theorem dX5_villageOf_54 : decode cX5_villageOf 54 = .ok (.ireturn, 1) := by decide +kernel
theorem dX5_order_0 : decode cX5_order 0 = .ok (.iload_n 1, 1) := by decide +kernel
theorem dX5_order_1 : decode cX5_order 1 = .ok (.i2l, 1) := by decide +kernel
theorem dX5_order_2 : decode cX5_order 2 = .ok (.lconst 0, 1) := by decide +kernel
theorem dX5_order_3 : decode cX5_order 3 = .ok (.ldc2_w 82, 3) := by decide +kernel
theorem dX5_order_6 : decode cX5_order 6 = .ok (.invokestatic 53, 3) := by decide +kernel
theorem dX5_order_9 : decode cX5_order 9 = .ok (.ifCond .eq 28, 3) := by decide +kernel
theorem dX5_order_12 : decode cX5_order 12 = .ok (.iload_n 2, 1) := by decide +kernel
theorem dX5_order_13 : decode cX5_order 13 = .ok (.i2l, 1) := by decide +kernel
theorem dX5_order_14 : decode cX5_order 14 = .ok (.ldc2_w 100, 3) := by decide +kernel
theorem dX5_order_17 : decode cX5_order 17 = .ok (.ldc2_w 72, 3) := by decide +kernel
theorem dX5_order_20 : decode cX5_order 20 = .ok (.invokestatic 53, 3) := by decide +kernel
theorem dX5_order_23 : decode cX5_order 23 = .ok (.ifCond .eq 14, 3) := by decide +kernel
theorem dX5_order_26 : decode cX5_order 26 = .ok (.aload_n 0, 1) := by decide +kernel
theorem dX5_order_27 : decode cX5_order 27 = .ok (.iconst 3, 1) := by decide +kernel
theorem dX5_order_28 : decode cX5_order 28 = .ok (.iload_n 1, 1) := by decide +kernel
theorem dX5_order_29 : decode cX5_order 29 = .ok (.iadd, 1) := by decide +kernel
theorem dX5_order_30 : decode cX5_order 30 = .ok (.iload_n 2, 1) := by decide +kernel
theorem dX5_order_31 : decode cX5_order 31 = .ok (.invokevirtual 102, 3) := by decide +kernel
theorem dX5_order_34 : decode cX5_order 34 = .ok (.goto 9, 3) := by decide +kernel
theorem dX5_order_37 : decode cX5_order 37 = .ok (.aload_n 0, 1) := by decide +kernel
theorem dX5_order_38 : decode cX5_order 38 = .ok (.ldc 50, 2) := by decide +kernel
theorem dX5_order_40 : decode cX5_order 40 = .ok (.invokevirtual 74, 3) := by decide +kernel
theorem dX5_order_43 : decode cX5_order 43 = .ok (.ireturn, 1) := by decide +kernel
theorem dX5_isSummer_0 : decode cX5_isSummer 0 = .ok (.aload_n 0, 1) := by decide +kernel
theorem dX5_isSummer_1 : decode cX5_isSummer 1 = .ok (.getfield 7, 3) := by decide +kernel
theorem dX5_isSummer_4 : decode cX5_isSummer 4 = .ok (.iconst 0, 1) := by decide +kernel
theorem dX5_isSummer_5 : decode cX5_isSummer 5 = .ok (.iaload, 1) := by decide +kernel
theorem dX5_isSummer_6 : decode cX5_isSummer 6 = .ok (.iconst 4, 1) := by decide +kernel
theorem dX5_isSummer_7 : decode cX5_isSummer 7 = .ok (.irem, 1) := by decide +kernel
theorem dX5_isSummer_8 : decode cX5_isSummer 8 = .ok (.iconst 2, 1) := by decide +kernel
theorem dX5_isSummer_9 : decode cX5_isSummer 9 = .ok (.if_icmp .ge 7, 3) := by decide +kernel
theorem dX5_isSummer_12 : decode cX5_isSummer 12 = .ok (.iconst 1, 1) := by decide +kernel
theorem dX5_isSummer_13 : decode cX5_isSummer 13 = .ok (.goto 4, 3) := by decide +kernel
theorem dX5_isSummer_16 : decode cX5_isSummer 16 = .ok (.iconst 0, 1) := by decide +kernel
theorem dX5_isSummer_17 : decode cX5_isSummer 17 = .ok (.ireturn, 1) := by decide +kernel
theorem dX5_twins_0 : decode cX5_twins 0 = .ok (.iconst 0, 1) := by decide +kernel
theorem dX5_twins_1 : decode cX5_twins 1 = .ok (.istore_n 1, 1) := by decide +kernel
theorem dX5_twins_2 : decode cX5_twins 2 = .ok (.iconst 0, 1) := by decide +kernel
theorem dX5_twins_3 : decode cX5_twins 3 = .ok (.istore_n 2, 1) := by decide +kernel
theorem dX5_twins_4 : decode cX5_twins 4 = .ok (.iload_n 2, 1) := by decide +kernel
theorem dX5_twins_5 : decode cX5_twins 5 = .ok (.aload_n 0, 1) := by decide +kernel
theorem dX5_twins_6 : decode cX5_twins 6 = .ok (.getfield 7, 3) := by decide +kernel
theorem dX5_twins_9 : decode cX5_twins 9 = .ok (.iconst 1, 1) := by decide +kernel
theorem dX5_twins_10 : decode cX5_twins 10 = .ok (.iaload, 1) := by decide +kernel
theorem dX5_twins_11 : decode cX5_twins 11 = .ok (.if_icmp .ge 27, 3) := by decide +kernel
theorem dX5_twins_14 : decode cX5_twins 14 = .ok (.iload_n 1, 1) := by decide +kernel
theorem dX5_twins_15 : decode cX5_twins 15 = .ok (.aload_n 0, 1) := by decide +kernel
theorem dX5_twins_16 : decode cX5_twins 16 = .ok (.iload_n 2, 1) := by decide +kernel
theorem dX5_twins_17 : decode cX5_twins 17 = .ok (.iconst 0, 1) := by decide +kernel
theorem dX5_twins_18 : decode cX5_twins 18 = .ok (.invokevirtual 63, 3) := by decide +kernel
theorem dX5_twins_21 : decode cX5_twins 21 = .ok (.iconst 5, 1) := by decide +kernel
theorem dX5_twins_22 : decode cX5_twins 22 = .ok (.if_icmp .ne 7, 3) := by decide +kernel
theorem dX5_twins_25 : decode cX5_twins 25 = .ok (.iconst 1, 1) := by decide +kernel
theorem dX5_twins_26 : decode cX5_twins 26 = .ok (.goto 4, 3) := by decide +kernel
theorem dX5_twins_29 : decode cX5_twins 29 = .ok (.iconst 0, 1) := by decide +kernel
theorem dX5_twins_30 : decode cX5_twins 30 = .ok (.iadd, 1) := by decide +kernel
theorem dX5_twins_31 : decode cX5_twins 31 = .ok (.istore_n 1, 1) := by decide +kernel
theorem dX5_twins_32 : decode cX5_twins 32 = .ok (.iinc 2 1, 3) := by decide +kernel
theorem dX5_twins_35 : decode cX5_twins 35 = .ok (.goto (-31), 3) := by decide +kernel
theorem dX5_twins_38 : decode cX5_twins 38 = .ok (.iload_n 1, 1) := by decide +kernel
theorem dX5_twins_39 : decode cX5_twins 39 = .ok (.ireturn, 1) := by decide +kernel
theorem dX5_strideOf_0 : decode cX5_strideOf 0 = .ok (.iconst 2, 1) := by decide +kernel
theorem dX5_strideOf_1 : decode cX5_strideOf 1 = .ok (.aload_n 0, 1) := by decide +kernel
theorem dX5_strideOf_2 : decode cX5_strideOf 2 = .ok (.iload_n 1, 1) := by decide +kernel
theorem dX5_strideOf_3 : decode cX5_strideOf 3 = .ok (.iconst 2, 1) := by decide +kernel
theorem dX5_strideOf_4 : decode cX5_strideOf 4 = .ok (.invokevirtual 63, 3) := by decide +kernel
theorem dX5_strideOf_7 : decode cX5_strideOf 7 = .ok (.iconst 3, 1) := by decide +kernel
theorem dX5_strideOf_8 : decode cX5_strideOf 8 = .ok (.idiv, 1) := by decide +kernel
theorem dX5_strideOf_9 : decode cX5_strideOf 9 = .ok (.iadd, 1) := by decide +kernel
theorem dX5_strideOf_10 : decode cX5_strideOf 10 = .ok (.istore_n 2, 1) := by decide +kernel
theorem dX5_strideOf_11 : decode cX5_strideOf 11 = .ok (.aload_n 0, 1) := by decide +kernel
theorem dX5_strideOf_12 : decode cX5_strideOf 12 = .ok (.iload_n 1, 1) := by decide +kernel
theorem dX5_strideOf_13 : decode cX5_strideOf 13 = .ok (.iconst 0, 1) := by decide +kernel
theorem dX5_strideOf_14 : decode cX5_strideOf 14 = .ok (.invokevirtual 63, 3) := by decide +kernel
theorem dX5_strideOf_17 : decode cX5_strideOf 17 = .ok (.tableswitch 80 1 5 #[35, 39, 43, 56, 69], 35) := by decide +kernel
theorem dX5_strideOf_52 : decode cX5_strideOf 52 = .ok (.iload_n 2, 1) := by decide +kernel
theorem dX5_strideOf_53 : decode cX5_strideOf 53 = .ok (.iconst 1, 1) := by decide +kernel
theorem dX5_strideOf_54 : decode cX5_strideOf 54 = .ok (.iadd, 1) := by decide +kernel
theorem dX5_strideOf_55 : decode cX5_strideOf 55 = .ok (.ireturn, 1) := by decide +kernel
theorem dX5_strideOf_56 : decode cX5_strideOf 56 = .ok (.iload_n 2, 1) := by decide +kernel
theorem dX5_strideOf_57 : decode cX5_strideOf 57 = .ok (.iconst 2, 1) := by decide +kernel
theorem dX5_strideOf_58 : decode cX5_strideOf 58 = .ok (.idiv, 1) := by decide +kernel
theorem dX5_strideOf_59 : decode cX5_strideOf 59 = .ok (.ireturn, 1) := by decide +kernel
theorem dX5_strideOf_60 : decode cX5_strideOf 60 = .ok (.aload_n 0, 1) := by decide +kernel
theorem dX5_strideOf_61 : decode cX5_strideOf 61 = .ok (.invokevirtual 105, 3) := by decide +kernel
theorem dX5_strideOf_64 : decode cX5_strideOf 64 = .ok (.ifCond .eq 7, 3) := by decide +kernel
theorem dX5_strideOf_67 : decode cX5_strideOf 67 = .ok (.iload_n 2, 1) := by decide +kernel
theorem dX5_strideOf_68 : decode cX5_strideOf 68 = .ok (.goto 4, 3) := by decide +kernel
theorem dX5_strideOf_71 : decode cX5_strideOf 71 = .ok (.iconst 0, 1) := by decide +kernel
theorem dX5_strideOf_72 : decode cX5_strideOf 72 = .ok (.ireturn, 1) := by decide +kernel
theorem dX5_strideOf_73 : decode cX5_strideOf 73 = .ok (.iload_n 2, 1) := by decide +kernel
theorem dX5_strideOf_74 : decode cX5_strideOf 74 = .ok (.iconst 1, 1) := by decide +kernel
theorem dX5_strideOf_75 : decode cX5_strideOf 75 = .ok (.if_icmp .ge 7, 3) := by decide +kernel
theorem dX5_strideOf_78 : decode cX5_strideOf 78 = .ok (.iconst 0, 1) := by decide +kernel
theorem dX5_strideOf_79 : decode cX5_strideOf 79 = .ok (.goto 6, 3) := by decide +kernel
theorem dX5_strideOf_82 : decode cX5_strideOf 82 = .ok (.iload_n 2, 1) := by decide +kernel
theorem dX5_strideOf_83 : decode cX5_strideOf 83 = .ok (.iconst 1, 1) := by decide +kernel
theorem dX5_strideOf_84 : decode cX5_strideOf 84 = .ok (.isub, 1) := by decide +kernel
theorem dX5_strideOf_85 : decode cX5_strideOf 85 = .ok (.ireturn, 1) := by decide +kernel
theorem dX5_strideOf_86 : decode cX5_strideOf 86 = .ok (.iload_n 2, 1) := by decide +kernel
theorem dX5_strideOf_87 : decode cX5_strideOf 87 = .ok (.iconst 2, 1) := by decide +kernel
theorem dX5_strideOf_88 : decode cX5_strideOf 88 = .ok (.idiv, 1) := by decide +kernel
theorem dX5_strideOf_89 : decode cX5_strideOf 89 = .ok (.aload_n 0, 1) := by decide +kernel
theorem dX5_strideOf_90 : decode cX5_strideOf 90 = .ok (.invokevirtual 109, 3) := by decide +kernel
theorem dX5_strideOf_93 : decode cX5_strideOf 93 = .ok (.iadd, 1) := by decide +kernel
theorem dX5_strideOf_94 : decode cX5_strideOf 94 = .ok (.iconst 1, 1) := by decide +kernel
theorem dX5_strideOf_95 : decode cX5_strideOf 95 = .ok (.isub, 1) := by decide +kernel
theorem dX5_strideOf_96 : decode cX5_strideOf 96 = .ok (.ireturn, 1) := by decide +kernel
theorem dX5_strideOf_97 : decode cX5_strideOf 97 = .ok (.iload_n 2, 1) := by decide +kernel
theorem dX5_strideOf_98 : decode cX5_strideOf 98 = .ok (.ireturn, 1) := by decide +kernel
theorem dX5_valueOf_0 : decode cX5_valueOf 0 = .ok (.iload_n 1, 1) := by decide +kernel
theorem dX5_valueOf_1 : decode cX5_valueOf 1 = .ok (.aload_n 0, 1) := by decide +kernel
theorem dX5_valueOf_2 : decode cX5_valueOf 2 = .ok (.getfield 7, 3) := by decide +kernel
theorem dX5_valueOf_5 : decode cX5_valueOf 5 = .ok (.iconst 3, 1) := by decide +kernel
theorem dX5_valueOf_6 : decode cX5_valueOf 6 = .ok (.iaload, 1) := by decide +kernel
theorem dX5_valueOf_7 : decode cX5_valueOf 7 = .ok (.imul, 1) := by decide +kernel
theorem dX5_valueOf_8 : decode cX5_valueOf 8 = .ok (.aload_n 0, 1) := by decide +kernel
theorem dX5_valueOf_9 : decode cX5_valueOf 9 = .ok (.iload_n 1, 1) := by decide +kernel
theorem dX5_valueOf_10 : decode cX5_valueOf 10 = .ok (.iconst 2, 1) := by decide +kernel
theorem dX5_valueOf_11 : decode cX5_valueOf 11 = .ok (.invokevirtual 63, 3) := by decide +kernel
theorem dX5_valueOf_14 : decode cX5_valueOf 14 = .ok (.aload_n 0, 1) := by decide +kernel
theorem dX5_valueOf_15 : decode cX5_valueOf 15 = .ok (.getfield 7, 3) := by decide +kernel
theorem dX5_valueOf_18 : decode cX5_valueOf 18 = .ok (.iconst 4, 1) := by decide +kernel
theorem dX5_valueOf_19 : decode cX5_valueOf 19 = .ok (.iaload, 1) := by decide +kernel
theorem dX5_valueOf_20 : decode cX5_valueOf 20 = .ok (.imul, 1) := by decide +kernel
theorem dX5_valueOf_21 : decode cX5_valueOf 21 = .ok (.iadd, 1) := by decide +kernel
theorem dX5_valueOf_22 : decode cX5_valueOf 22 = .ok (.aload_n 0, 1) := by decide +kernel
theorem dX5_valueOf_23 : decode cX5_valueOf 23 = .ok (.iload_n 1, 1) := by decide +kernel
theorem dX5_valueOf_24 : decode cX5_valueOf 24 = .ok (.iconst 3, 1) := by decide +kernel
theorem dX5_valueOf_25 : decode cX5_valueOf 25 = .ok (.invokevirtual 63, 3) := by decide +kernel
theorem dX5_valueOf_28 : decode cX5_valueOf 28 = .ok (.aload_n 0, 1) := by decide +kernel
theorem dX5_valueOf_29 : decode cX5_valueOf 29 = .ok (.getfield 7, 3) := by decide +kernel
theorem dX5_valueOf_32 : decode cX5_valueOf 32 = .ok (.iconst 5, 1) := by decide +kernel
theorem dX5_valueOf_33 : decode cX5_valueOf 33 = .ok (.iaload, 1) := by decide +kernel
theorem dX5_valueOf_34 : decode cX5_valueOf 34 = .ok (.imul, 1) := by decide +kernel
theorem dX5_valueOf_35 : decode cX5_valueOf 35 = .ok (.iadd, 1) := by decide +kernel
theorem dX5_valueOf_36 : decode cX5_valueOf 36 = .ok (.aload_n 0, 1) := by decide +kernel
theorem dX5_valueOf_37 : decode cX5_valueOf 37 = .ok (.iload_n 1, 1) := by decide +kernel
theorem dX5_valueOf_38 : decode cX5_valueOf 38 = .ok (.iconst 1, 1) := by decide +kernel
theorem dX5_valueOf_39 : decode cX5_valueOf 39 = .ok (.invokevirtual 63, 3) := by decide +kernel
theorem dX5_valueOf_42 : decode cX5_valueOf 42 = .ok (.aload_n 0, 1) := by decide +kernel
theorem dX5_valueOf_43 : decode cX5_valueOf 43 = .ok (.getfield 7, 3) := by decide +kernel
theorem dX5_valueOf_46 : decode cX5_valueOf 46 = .ok (.bipush 6, 2) := by decide +kernel
theorem dX5_valueOf_48 : decode cX5_valueOf 48 = .ok (.iaload, 1) := by decide +kernel
theorem dX5_valueOf_49 : decode cX5_valueOf 49 = .ok (.imul, 1) := by decide +kernel
theorem dX5_valueOf_50 : decode cX5_valueOf 50 = .ok (.iadd, 1) := by decide +kernel
theorem dX5_valueOf_51 : decode cX5_valueOf 51 = .ok (.ireturn, 1) := by decide +kernel
theorem dX5_goesFirst_0 : decode cX5_goesFirst 0 = .ok (.aload_n 0, 1) := by decide +kernel
theorem dX5_goesFirst_1 : decode cX5_goesFirst 1 = .ok (.iload_n 1, 1) := by decide +kernel
theorem dX5_goesFirst_2 : decode cX5_goesFirst 2 = .ok (.invokevirtual 113, 3) := by decide +kernel
theorem dX5_goesFirst_5 : decode cX5_goesFirst 5 = .ok (.aload_n 0, 1) := by decide +kernel
theorem dX5_goesFirst_6 : decode cX5_goesFirst 6 = .ok (.iload_n 2, 1) := by decide +kernel
theorem dX5_goesFirst_7 : decode cX5_goesFirst 7 = .ok (.invokevirtual 113, 3) := by decide +kernel
theorem dX5_goesFirst_10 : decode cX5_goesFirst 10 = .ok (.if_icmp .lt 21, 3) := by decide +kernel
theorem dX5_goesFirst_13 : decode cX5_goesFirst 13 = .ok (.aload_n 0, 1) := by decide +kernel
theorem dX5_goesFirst_14 : decode cX5_goesFirst 14 = .ok (.iload_n 1, 1) := by decide +kernel
theorem dX5_goesFirst_15 : decode cX5_goesFirst 15 = .ok (.invokevirtual 113, 3) := by decide +kernel
theorem dX5_goesFirst_18 : decode cX5_goesFirst 18 = .ok (.aload_n 0, 1) := by decide +kernel
theorem dX5_goesFirst_19 : decode cX5_goesFirst 19 = .ok (.iload_n 2, 1) := by decide +kernel
theorem dX5_goesFirst_20 : decode cX5_goesFirst 20 = .ok (.invokevirtual 113, 3) := by decide +kernel
theorem dX5_goesFirst_23 : decode cX5_goesFirst 23 = .ok (.if_icmp .ne 12, 3) := by decide +kernel
theorem dX5_goesFirst_26 : decode cX5_goesFirst 26 = .ok (.iload_n 1, 1) := by decide +kernel
theorem dX5_goesFirst_27 : decode cX5_goesFirst 27 = .ok (.iload_n 2, 1) := by decide +kernel
theorem dX5_goesFirst_28 : decode cX5_goesFirst 28 = .ok (.if_icmp .ge 7, 3) := by decide +kernel
theorem dX5_goesFirst_31 : decode cX5_goesFirst 31 = .ok (.iconst 1, 1) := by decide +kernel
theorem dX5_goesFirst_32 : decode cX5_goesFirst 32 = .ok (.goto 4, 3) := by decide +kernel
theorem dX5_goesFirst_35 : decode cX5_goesFirst 35 = .ok (.iconst 0, 1) := by decide +kernel
theorem dX5_goesFirst_36 : decode cX5_goesFirst 36 = .ok (.ireturn, 1) := by decide +kernel
theorem dX5_rightAhead_0 : decode cX5_rightAhead 0 = .ok (.iconst (-1), 1) := by decide +kernel
theorem dX5_rightAhead_1 : decode cX5_rightAhead 1 = .ok (.istore_n 2, 1) := by decide +kernel
theorem dX5_rightAhead_2 : decode cX5_rightAhead 2 = .ok (.iconst 0, 1) := by decide +kernel
theorem dX5_rightAhead_3 : decode cX5_rightAhead 3 = .ok (.istore_n 3, 1) := by decide +kernel
theorem dX5_rightAhead_4 : decode cX5_rightAhead 4 = .ok (.iload_n 3, 1) := by decide +kernel
theorem dX5_rightAhead_5 : decode cX5_rightAhead 5 = .ok (.aload_n 0, 1) := by decide +kernel
theorem dX5_rightAhead_6 : decode cX5_rightAhead 6 = .ok (.getfield 7, 3) := by decide +kernel
theorem dX5_rightAhead_9 : decode cX5_rightAhead 9 = .ok (.iconst 1, 1) := by decide +kernel
theorem dX5_rightAhead_10 : decode cX5_rightAhead 10 = .ok (.iaload, 1) := by decide +kernel
theorem dX5_rightAhead_11 : decode cX5_rightAhead 11 = .ok (.if_icmp .ge 42, 3) := by decide +kernel
theorem dX5_rightAhead_14 : decode cX5_rightAhead 14 = .ok (.iload_n 3, 1) := by decide +kernel
theorem dX5_rightAhead_15 : decode cX5_rightAhead 15 = .ok (.iload_n 1, 1) := by decide +kernel
theorem dX5_rightAhead_16 : decode cX5_rightAhead 16 = .ok (.if_icmp .eq 29, 3) := by decide +kernel
theorem dX5_rightAhead_19 : decode cX5_rightAhead 19 = .ok (.aload_n 0, 1) := by decide +kernel
theorem dX5_rightAhead_20 : decode cX5_rightAhead 20 = .ok (.iload_n 3, 1) := by decide +kernel
theorem dX5_rightAhead_21 : decode cX5_rightAhead 21 = .ok (.iload_n 1, 1) := by decide +kernel
theorem dX5_rightAhead_22 : decode cX5_rightAhead 22 = .ok (.invokevirtual 116, 3) := by decide +kernel
theorem dX5_rightAhead_25 : decode cX5_rightAhead 25 = .ok (.ifCond .eq 20, 3) := by decide +kernel
theorem dX5_rightAhead_28 : decode cX5_rightAhead 28 = .ok (.iload_n 2, 1) := by decide +kernel
theorem dX5_rightAhead_29 : decode cX5_rightAhead 29 = .ok (.ifCond .lt 12, 3) := by decide +kernel
theorem dX5_rightAhead_32 : decode cX5_rightAhead 32 = .ok (.aload_n 0, 1) := by decide +kernel
theorem dX5_rightAhead_33 : decode cX5_rightAhead 33 = .ok (.iload_n 2, 1) := by decide +kernel
theorem dX5_rightAhead_34 : decode cX5_rightAhead 34 = .ok (.iload_n 3, 1) := by decide +kernel
theorem dX5_rightAhead_35 : decode cX5_rightAhead 35 = .ok (.invokevirtual 116, 3) := by decide +kernel
theorem dX5_rightAhead_38 : decode cX5_rightAhead 38 = .ok (.ifCond .eq 7, 3) := by decide +kernel
theorem dX5_rightAhead_41 : decode cX5_rightAhead 41 = .ok (.iload_n 3, 1) := by decide +kernel
theorem dX5_rightAhead_42 : decode cX5_rightAhead 42 = .ok (.goto 4, 3) := by decide +kernel
theorem dX5_rightAhead_45 : decode cX5_rightAhead 45 = .ok (.iload_n 2, 1) := by decide +kernel
theorem dX5_rightAhead_46 : decode cX5_rightAhead 46 = .ok (.istore_n 2, 1) := by decide +kernel
theorem dX5_rightAhead_47 : decode cX5_rightAhead 47 = .ok (.iinc 3 1, 3) := by decide +kernel
theorem dX5_rightAhead_50 : decode cX5_rightAhead 50 = .ok (.goto (-46), 3) := by decide +kernel
theorem dX5_rightAhead_53 : decode cX5_rightAhead 53 = .ok (.iload_n 2, 1) := by decide +kernel
theorem dX5_rightAhead_54 : decode cX5_rightAhead 54 = .ok (.ireturn, 1) := by decide +kernel
theorem dX5_adds_0 : decode cX5_adds 0 = .ok (.aload_n 0, 1) := by decide +kernel
theorem dX5_adds_1 : decode cX5_adds 1 = .ok (.getfield 7, 3) := by decide +kernel
theorem dX5_adds_4 : decode cX5_adds 4 = .ok (.iconst 1, 1) := by decide +kernel
theorem dX5_adds_5 : decode cX5_adds 5 = .ok (.iaload, 1) := by decide +kernel
theorem dX5_adds_6 : decode cX5_adds 6 = .ok (.istore_n 3, 1) := by decide +kernel
theorem dX5_adds_7 : decode cX5_adds 7 = .ok (.aload_n 0, 1) := by decide +kernel
theorem dX5_adds_8 : decode cX5_adds 8 = .ok (.getfield 7, 3) := by decide +kernel
theorem dX5_adds_11 : decode cX5_adds 11 = .ok (.iload_n 3, 1) := by decide +kernel
theorem dX5_adds_12 : decode cX5_adds 12 = .ok (.iconst 0, 1) := by decide +kernel
theorem dX5_adds_13 : decode cX5_adds 13 = .ok (.invokestatic 59, 3) := by decide +kernel
theorem dX5_adds_16 : decode cX5_adds 16 = .ok (.iload_n 1, 1) := by decide +kernel
theorem dX5_adds_17 : decode cX5_adds 17 = .ok (.iastore, 1) := by decide +kernel
theorem dX5_adds_18 : decode cX5_adds 18 = .ok (.aload_n 0, 1) := by decide +kernel
theorem dX5_adds_19 : decode cX5_adds 19 = .ok (.getfield 7, 3) := by decide +kernel
theorem dX5_adds_22 : decode cX5_adds 22 = .ok (.iload_n 3, 1) := by decide +kernel
theorem dX5_adds_23 : decode cX5_adds 23 = .ok (.iconst 1, 1) := by decide +kernel
theorem dX5_adds_24 : decode cX5_adds 24 = .ok (.invokestatic 59, 3) := by decide +kernel
theorem dX5_adds_27 : decode cX5_adds 27 = .ok (.iload_n 2, 1) := by decide +kernel
theorem dX5_adds_28 : decode cX5_adds 28 = .ok (.iastore, 1) := by decide +kernel
theorem dX5_adds_29 : decode cX5_adds 29 = .ok (.aload_n 0, 1) := by decide +kernel
theorem dX5_adds_30 : decode cX5_adds 30 = .ok (.getfield 7, 3) := by decide +kernel
theorem dX5_adds_33 : decode cX5_adds 33 = .ok (.iload_n 3, 1) := by decide +kernel
theorem dX5_adds_34 : decode cX5_adds 34 = .ok (.iconst 2, 1) := by decide +kernel
theorem dX5_adds_35 : decode cX5_adds 35 = .ok (.invokestatic 59, 3) := by decide +kernel
theorem dX5_adds_38 : decode cX5_adds 38 = .ok (.iconst 0, 1) := by decide +kernel
theorem dX5_adds_39 : decode cX5_adds 39 = .ok (.iastore, 1) := by decide +kernel
theorem dX5_adds_40 : decode cX5_adds 40 = .ok (.aload_n 0, 1) := by decide +kernel
theorem dX5_adds_41 : decode cX5_adds 41 = .ok (.getfield 7, 3) := by decide +kernel
theorem dX5_adds_44 : decode cX5_adds 44 = .ok (.iload_n 3, 1) := by decide +kernel
theorem dX5_adds_45 : decode cX5_adds 45 = .ok (.iconst 3, 1) := by decide +kernel
theorem dX5_adds_46 : decode cX5_adds 46 = .ok (.invokestatic 59, 3) := by decide +kernel
theorem dX5_adds_49 : decode cX5_adds 49 = .ok (.iconst 0, 1) := by decide +kernel
theorem dX5_adds_50 : decode cX5_adds 50 = .ok (.iastore, 1) := by decide +kernel
theorem dX5_adds_51 : decode cX5_adds 51 = .ok (.aload_n 0, 1) := by decide +kernel
theorem dX5_adds_52 : decode cX5_adds 52 = .ok (.getfield 7, 3) := by decide +kernel
theorem dX5_adds_55 : decode cX5_adds 55 = .ok (.iload_n 3, 1) := by decide +kernel
theorem dX5_adds_56 : decode cX5_adds 56 = .ok (.iconst 4, 1) := by decide +kernel
theorem dX5_adds_57 : decode cX5_adds 57 = .ok (.invokestatic 59, 3) := by decide +kernel
theorem dX5_adds_60 : decode cX5_adds 60 = .ok (.iconst 0, 1) := by decide +kernel
theorem dX5_adds_61 : decode cX5_adds 61 = .ok (.iastore, 1) := by decide +kernel
theorem dX5_adds_62 : decode cX5_adds 62 = .ok (.aload_n 0, 1) := by decide +kernel
theorem dX5_adds_63 : decode cX5_adds 63 = .ok (.getfield 7, 3) := by decide +kernel
theorem dX5_adds_66 : decode cX5_adds 66 = .ok (.iconst 1, 1) := by decide +kernel
theorem dX5_adds_67 : decode cX5_adds 67 = .ok (.dup2, 1) := by decide +kernel
theorem dX5_adds_68 : decode cX5_adds 68 = .ok (.iaload, 1) := by decide +kernel
theorem dX5_adds_69 : decode cX5_adds 69 = .ok (.iconst 1, 1) := by decide +kernel
theorem dX5_adds_70 : decode cX5_adds 70 = .ok (.iadd, 1) := by decide +kernel
theorem dX5_adds_71 : decode cX5_adds 71 = .ok (.iastore, 1) := by decide +kernel
theorem dX5_adds_72 : decode cX5_adds 72 = .ok (.iload_n 3, 1) := by decide +kernel
theorem dX5_adds_73 : decode cX5_adds 73 = .ok (.ireturn, 1) := by decide +kernel
theorem dX5_range_0 : decode cX5_range 0 = .ok (.iload_n 1, 1) := by decide +kernel
theorem dX5_range_1 : decode cX5_range 1 = .ok (.invokestatic 120, 3) := by decide +kernel
theorem dX5_range_4 : decode cX5_range 4 = .ok (.ifCond .eq 10, 3) := by decide +kernel
theorem dX5_range_7 : decode cX5_range 7 = .ok (.iload_n 2, 1) := by decide +kernel
theorem dX5_range_8 : decode cX5_range 8 = .ok (.invokestatic 66, 3) := by decide +kernel
theorem dX5_range_11 : decode cX5_range 11 = .ok (.ifCond .ne 10, 3) := by decide +kernel
theorem dX5_range_14 : decode cX5_range 14 = .ok (.aload_n 0, 1) := by decide +kernel
theorem dX5_range_15 : decode cX5_range 15 = .ok (.ldc 50, 2) := by decide +kernel
theorem dX5_range_17 : decode cX5_range 17 = .ok (.invokevirtual 74, 3) := by decide +kernel
theorem dX5_range_20 : decode cX5_range 20 = .ok (.ireturn, 1) := by decide +kernel
theorem dX5_range_21 : decode cX5_range 21 = .ok (.aload_n 0, 1) := by decide +kernel
theorem dX5_range_22 : decode cX5_range 22 = .ok (.iload_n 2, 1) := by decide +kernel
theorem dX5_range_23 : decode cX5_range 23 = .ok (.invokevirtual 87, 3) := by decide +kernel
theorem dX5_range_26 : decode cX5_range 26 = .ok (.ifCond .lt 10, 3) := by decide +kernel
theorem dX5_range_29 : decode cX5_range 29 = .ok (.aload_n 0, 1) := by decide +kernel
theorem dX5_range_30 : decode cX5_range 30 = .ok (.ldc 123, 2) := by decide +kernel
theorem dX5_range_32 : decode cX5_range 32 = .ok (.invokevirtual 74, 3) := by decide +kernel
theorem dX5_range_35 : decode cX5_range 35 = .ok (.ireturn, 1) := by decide +kernel
theorem dX5_range_36 : decode cX5_range 36 = .ok (.aload_n 0, 1) := by decide +kernel
theorem dX5_range_37 : decode cX5_range 37 = .ok (.getfield 7, 3) := by decide +kernel
theorem dX5_range_40 : decode cX5_range 40 = .ok (.iconst 1, 1) := by decide +kernel
theorem dX5_range_41 : decode cX5_range 41 = .ok (.iaload, 1) := by decide +kernel
theorem dX5_range_42 : decode cX5_range 42 = .ok (.bipush 8, 2) := by decide +kernel
theorem dX5_range_44 : decode cX5_range 44 = .ok (.if_icmp .ne 12, 3) := by decide +kernel
theorem dX5_range_47 : decode cX5_range 47 = .ok (.aload_n 0, 1) := by decide +kernel
theorem dX5_range_48 : decode cX5_range 48 = .ok (.ldc 90, 2) := by decide +kernel
theorem dX5_range_50 : decode cX5_range 50 = .ok (.invokevirtual 74, 3) := by decide +kernel
theorem dX5_range_53 : decode cX5_range 53 = .ok (.goto 9, 3) := by decide +kernel
theorem dX5_range_56 : decode cX5_range 56 = .ok (.aload_n 0, 1) := by decide +kernel
theorem dX5_range_57 : decode cX5_range 57 = .ok (.iload_n 1, 1) := by decide +kernel
theorem dX5_range_58 : decode cX5_range 58 = .ok (.iload_n 2, 1) := by decide +kernel
theorem dX5_range_59 : decode cX5_range 59 = .ok (.invokevirtual 124, 3) := by decide +kernel
theorem dX5_range_62 : decode cX5_range 62 = .ok (.ireturn, 1) := by decide +kernel
theorem dX5_of_0 : decode cX5_of 0 = .ok (.aload_n 0, 1) := by decide +kernel
theorem dX5_of_1 : decode cX5_of 1 = .ok (.iload_n 1, 1) := by decide +kernel
theorem dX5_of_2 : decode cX5_of 2 = .ok (.invokevirtual 127, 3) := by decide +kernel
theorem dX5_of_5 : decode cX5_of 5 = .ok (.ifCond .eq 15, 3) := by decide +kernel
theorem dX5_of_8 : decode cX5_of 8 = .ok (.iload_n 2, 1) := by decide +kernel
theorem dX5_of_9 : decode cX5_of 9 = .ok (.i2l, 1) := by decide +kernel
theorem dX5_of_10 : decode cX5_of 10 = .ok (.lconst 0, 1) := by decide +kernel
theorem dX5_of_11 : decode cX5_of 11 = .ok (.ldc2_w 130, 3) := by decide +kernel
theorem dX5_of_14 : decode cX5_of 14 = .ok (.invokestatic 53, 3) := by decide +kernel
theorem dX5_of_17 : decode cX5_of 17 = .ok (.ifCond .ne 10, 3) := by decide +kernel
theorem dX5_of_20 : decode cX5_of 20 = .ok (.aload_n 0, 1) := by decide +kernel
theorem dX5_of_21 : decode cX5_of 21 = .ok (.ldc 50, 2) := by decide +kernel
theorem dX5_of_23 : decode cX5_of 23 = .ok (.invokevirtual 74, 3) := by decide +kernel
theorem dX5_of_26 : decode cX5_of 26 = .ok (.ireturn, 1) := by decide +kernel
theorem dX5_of_27 : decode cX5_of 27 = .ok (.iload_n 2, 1) := by decide +kernel
theorem dX5_of_28 : decode cX5_of 28 = .ok (.iconst 5, 1) := by decide +kernel
theorem dX5_of_29 : decode cX5_of 29 = .ok (.if_icmp .ge 12, 3) := by decide +kernel
theorem dX5_of_32 : decode cX5_of 32 = .ok (.aload_n 0, 1) := by decide +kernel
theorem dX5_of_33 : decode cX5_of 33 = .ok (.iload_n 1, 1) := by decide +kernel
theorem dX5_of_34 : decode cX5_of 34 = .ok (.iload_n 2, 1) := by decide +kernel
theorem dX5_of_35 : decode cX5_of 35 = .ok (.invokevirtual 63, 3) := by decide +kernel
theorem dX5_of_38 : decode cX5_of 38 = .ok (.goto 35, 3) := by decide +kernel
theorem dX5_of_41 : decode cX5_of 41 = .ok (.iload_n 2, 1) := by decide +kernel
theorem dX5_of_42 : decode cX5_of 42 = .ok (.iconst 5, 1) := by decide +kernel
theorem dX5_of_43 : decode cX5_of 43 = .ok (.if_icmp .ne 11, 3) := by decide +kernel
theorem dX5_of_46 : decode cX5_of 46 = .ok (.aload_n 0, 1) := by decide +kernel
theorem dX5_of_47 : decode cX5_of 47 = .ok (.iload_n 1, 1) := by decide +kernel
theorem dX5_of_48 : decode cX5_of 48 = .ok (.invokevirtual 132, 3) := by decide +kernel
theorem dX5_of_51 : decode cX5_of 51 = .ok (.goto 22, 3) := by decide +kernel
theorem dX5_of_54 : decode cX5_of 54 = .ok (.iload_n 2, 1) := by decide +kernel
theorem dX5_of_55 : decode cX5_of 55 = .ok (.bipush 6, 2) := by decide +kernel
theorem dX5_of_57 : decode cX5_of 57 = .ok (.if_icmp .ne 11, 3) := by decide +kernel
theorem dX5_of_60 : decode cX5_of 60 = .ok (.aload_n 0, 1) := by decide +kernel
theorem dX5_of_61 : decode cX5_of 61 = .ok (.iload_n 1, 1) := by decide +kernel
theorem dX5_of_62 : decode cX5_of 62 = .ok (.invokevirtual 113, 3) := by decide +kernel
theorem dX5_of_65 : decode cX5_of 65 = .ok (.goto 8, 3) := by decide +kernel
theorem dX5_of_68 : decode cX5_of 68 = .ok (.aload_n 0, 1) := by decide +kernel
theorem dX5_of_69 : decode cX5_of 69 = .ok (.iload_n 1, 1) := by decide +kernel
theorem dX5_of_70 : decode cX5_of 70 = .ok (.invokevirtual 135, 3) := by decide +kernel
theorem dX5_of_73 : decode cX5_of 73 = .ok (.ireturn, 1) := by decide +kernel
theorem dX5_set_0 : decode cX5_set 0 = .ok (.aload_n 0, 1) := by decide +kernel
theorem dX5_set_1 : decode cX5_set 1 = .ok (.iload_n 1, 1) := by decide +kernel
theorem dX5_set_2 : decode cX5_set 2 = .ok (.invokevirtual 127, 3) := by decide +kernel
theorem dX5_set_5 : decode cX5_set 5 = .ok (.ifCond .eq 38, 3) := by decide +kernel
theorem dX5_set_8 : decode cX5_set 8 = .ok (.iload_n 2, 1) := by decide +kernel
theorem dX5_set_9 : decode cX5_set 9 = .ok (.i2l, 1) := by decide +kernel
theorem dX5_set_10 : decode cX5_set 10 = .ok (.lconst 1, 1) := by decide +kernel
theorem dX5_set_11 : decode cX5_set 11 = .ok (.ldc2_w 70, 3) := by decide +kernel
theorem dX5_set_14 : decode cX5_set 14 = .ok (.invokestatic 53, 3) := by decide +kernel
theorem dX5_set_17 : decode cX5_set 17 = .ok (.ifCond .eq 26, 3) := by decide +kernel
theorem dX5_set_20 : decode cX5_set 20 = .ok (.iload_n 3, 1) := by decide +kernel
theorem dX5_set_21 : decode cX5_set 21 = .ok (.i2l, 1) := by decide +kernel
theorem dX5_set_22 : decode cX5_set 22 = .ok (.lconst 0, 1) := by decide +kernel
theorem dX5_set_23 : decode cX5_set 23 = .ok (.iload_n 2, 1) := by decide +kernel
theorem dX5_set_24 : decode cX5_set 24 = .ok (.iconst 1, 1) := by decide +kernel
theorem dX5_set_25 : decode cX5_set 25 = .ok (.if_icmp .ne 9, 3) := by decide +kernel
theorem dX5_set_28 : decode cX5_set 28 = .ok (.ldc2_w 51, 3) := by decide +kernel
theorem dX5_set_31 : decode cX5_set 31 = .ok (.goto 6, 3) := by decide +kernel
theorem dX5_set_34 : decode cX5_set 34 = .ok (.ldc2_w 72, 3) := by decide +kernel
theorem dX5_set_37 : decode cX5_set 37 = .ok (.invokestatic 53, 3) := by decide +kernel
theorem dX5_set_40 : decode cX5_set 40 = .ok (.ifCond .ne 10, 3) := by decide +kernel
theorem dX5_set_43 : decode cX5_set 43 = .ok (.aload_n 0, 1) := by decide +kernel
theorem dX5_set_44 : decode cX5_set 44 = .ok (.ldc 50, 2) := by decide +kernel
theorem dX5_set_46 : decode cX5_set 46 = .ok (.invokevirtual 74, 3) := by decide +kernel
theorem dX5_set_49 : decode cX5_set 49 = .ok (.ireturn, 1) := by decide +kernel
theorem dX5_set_50 : decode cX5_set 50 = .ok (.iload_n 2, 1) := by decide +kernel
theorem dX5_set_51 : decode cX5_set 51 = .ok (.iconst 1, 1) := by decide +kernel
theorem dX5_set_52 : decode cX5_set 52 = .ok (.if_icmp .ne 27, 3) := by decide +kernel
theorem dX5_set_55 : decode cX5_set 55 = .ok (.aload_n 0, 1) := by decide +kernel
theorem dX5_set_56 : decode cX5_set 56 = .ok (.iload_n 3, 1) := by decide +kernel
theorem dX5_set_57 : decode cX5_set 57 = .ok (.invokevirtual 87, 3) := by decide +kernel
theorem dX5_set_60 : decode cX5_set 60 = .ok (.ifCond .lt 19, 3) := by decide +kernel
theorem dX5_set_63 : decode cX5_set 63 = .ok (.aload_n 0, 1) := by decide +kernel
theorem dX5_set_64 : decode cX5_set 64 = .ok (.iload_n 3, 1) := by decide +kernel
theorem dX5_set_65 : decode cX5_set 65 = .ok (.invokevirtual 87, 3) := by decide +kernel
theorem dX5_set_68 : decode cX5_set 68 = .ok (.iload_n 1, 1) := by decide +kernel
theorem dX5_set_69 : decode cX5_set 69 = .ok (.if_icmp .eq 10, 3) := by decide +kernel
theorem dX5_set_72 : decode cX5_set 72 = .ok (.aload_n 0, 1) := by decide +kernel
theorem dX5_set_73 : decode cX5_set 73 = .ok (.ldc 123, 2) := by decide +kernel
theorem dX5_set_75 : decode cX5_set 75 = .ok (.invokevirtual 74, 3) := by decide +kernel
theorem dX5_set_78 : decode cX5_set 78 = .ok (.ireturn, 1) := by decide +kernel
theorem dX5_set_79 : decode cX5_set 79 = .ok (.aload_n 0, 1) := by decide +kernel
theorem dX5_set_80 : decode cX5_set 80 = .ok (.iload_n 1, 1) := by decide +kernel
theorem dX5_set_81 : decode cX5_set 81 = .ok (.iload_n 2, 1) := by decide +kernel
theorem dX5_set_82 : decode cX5_set 82 = .ok (.invokestatic 59, 3) := by decide +kernel
theorem dX5_set_85 : decode cX5_set 85 = .ok (.iload_n 3, 1) := by decide +kernel
theorem dX5_set_86 : decode cX5_set 86 = .ok (.invokevirtual 102, 3) := by decide +kernel
theorem dX5_set_89 : decode cX5_set 89 = .ok (.ireturn, 1) := by decide +kernel
theorem dX5_turn_0 : decode cX5_turn 0 = .ok (.aload_n 0, 1) := by decide +kernel
theorem dX5_turn_1 : decode cX5_turn 1 = .ok (.iload_n 1, 1) := by decide +kernel
theorem dX5_turn_2 : decode cX5_turn 2 = .ok (.invokevirtual 127, 3) := by decide +kernel
theorem dX5_turn_5 : decode cX5_turn 5 = .ok (.ifCond .eq 23, 3) := by decide +kernel
theorem dX5_turn_8 : decode cX5_turn 8 = .ok (.iload_n 2, 1) := by decide +kernel
theorem dX5_turn_9 : decode cX5_turn 9 = .ok (.invokestatic 120, 3) := by decide +kernel
theorem dX5_turn_12 : decode cX5_turn 12 = .ok (.ifCond .eq 16, 3) := by decide +kernel
theorem dX5_turn_15 : decode cX5_turn 15 = .ok (.aload_n 0, 1) := by decide +kernel
theorem dX5_turn_16 : decode cX5_turn 16 = .ok (.iload_n 1, 1) := by decide +kernel
theorem dX5_turn_17 : decode cX5_turn 17 = .ok (.iconst 0, 1) := by decide +kernel
theorem dX5_turn_18 : decode cX5_turn 18 = .ok (.invokestatic 59, 3) := by decide +kernel
theorem dX5_turn_21 : decode cX5_turn 21 = .ok (.iload_n 2, 1) := by decide +kernel
theorem dX5_turn_22 : decode cX5_turn 22 = .ok (.invokevirtual 102, 3) := by decide +kernel
theorem dX5_turn_25 : decode cX5_turn 25 = .ok (.goto 9, 3) := by decide +kernel
theorem dX5_turn_28 : decode cX5_turn 28 = .ok (.aload_n 0, 1) := by decide +kernel
theorem dX5_turn_29 : decode cX5_turn 29 = .ok (.ldc 50, 2) := by decide +kernel
theorem dX5_turn_31 : decode cX5_turn 31 = .ok (.invokevirtual 74, 3) := by decide +kernel
theorem dX5_turn_34 : decode cX5_turn 34 = .ok (.ireturn, 1) := by decide +kernel
theorem dX5_above_0 : decode cX5_above 0 = .ok (.iload_n 0, 1) := by decide +kernel
theorem dX5_above_1 : decode cX5_above 1 = .ok (.iconst 4, 1) := by decide +kernel
theorem dX5_above_2 : decode cX5_above 2 = .ok (.if_icmp .ne 7, 3) := by decide +kernel
theorem dX5_above_5 : decode cX5_above 5 = .ok (.iconst 1, 1) := by decide +kernel
theorem dX5_above_6 : decode cX5_above 6 = .ok (.goto 13, 3) := by decide +kernel
theorem dX5_above_9 : decode cX5_above 9 = .ok (.iload_n 0, 1) := by decide +kernel
theorem dX5_above_10 : decode cX5_above 10 = .ok (.iconst 5, 1) := by decide +kernel
theorem dX5_above_11 : decode cX5_above 11 = .ok (.if_icmp .ne 7, 3) := by decide +kernel
theorem dX5_above_14 : decode cX5_above 14 = .ok (.iconst 2, 1) := by decide +kernel
theorem dX5_above_15 : decode cX5_above 15 = .ok (.goto 4, 3) := by decide +kernel
theorem dX5_above_18 : decode cX5_above 18 = .ok (.iconst 0, 1) := by decide +kernel
theorem dX5_above_19 : decode cX5_above 19 = .ok (.ireturn, 1) := by decide +kernel
theorem dX5_as_0 : decode cX5_as 0 = .ok (.aload_n 0, 1) := by decide +kernel
theorem dX5_as_1 : decode cX5_as 1 = .ok (.iload_n 1, 1) := by decide +kernel
theorem dX5_as_2 : decode cX5_as 2 = .ok (.invokevirtual 127, 3) := by decide +kernel
theorem dX5_as_5 : decode cX5_as 5 = .ok (.ifCond .eq 10, 3) := by decide +kernel
theorem dX5_as_8 : decode cX5_as 8 = .ok (.iload_n 2, 1) := by decide +kernel
theorem dX5_as_9 : decode cX5_as 9 = .ok (.invokestatic 120, 3) := by decide +kernel
theorem dX5_as_12 : decode cX5_as 12 = .ok (.ifCond .ne 10, 3) := by decide +kernel
theorem dX5_as_15 : decode cX5_as 15 = .ok (.aload_n 0, 1) := by decide +kernel
theorem dX5_as_16 : decode cX5_as 16 = .ok (.ldc 50, 2) := by decide +kernel
theorem dX5_as_18 : decode cX5_as 18 = .ok (.invokevirtual 74, 3) := by decide +kernel
theorem dX5_as_21 : decode cX5_as 21 = .ok (.ireturn, 1) := by decide +kernel
theorem dX5_as_22 : decode cX5_as 22 = .ok (.aload_n 0, 1) := by decide +kernel
theorem dX5_as_23 : decode cX5_as 23 = .ok (.iload_n 1, 1) := by decide +kernel
theorem dX5_as_24 : decode cX5_as 24 = .ok (.iconst 0, 1) := by decide +kernel
theorem dX5_as_25 : decode cX5_as 25 = .ok (.invokevirtual 63, 3) := by decide +kernel
theorem dX5_as_28 : decode cX5_as 28 = .ok (.istore_n 3, 1) := by decide +kernel
theorem dX5_as_29 : decode cX5_as 29 = .ok (.iload_n 3, 1) := by decide +kernel
theorem dX5_as_30 : decode cX5_as 30 = .ok (.iload_n 2, 1) := by decide +kernel
theorem dX5_as_31 : decode cX5_as 31 = .ok (.if_icmp .eq 15, 3) := by decide +kernel
theorem dX5_as_34 : decode cX5_as 34 = .ok (.iload_n 3, 1) := by decide +kernel
theorem dX5_as_35 : decode cX5_as 35 = .ok (.ifCond .eq 11, 3) := by decide +kernel
theorem dX5_as_38 : decode cX5_as 38 = .ok (.iload_n 3, 1) := by decide +kernel
theorem dX5_as_39 : decode cX5_as 39 = .ok (.invokestatic 138, 3) := by decide +kernel
theorem dX5_as_42 : decode cX5_as 42 = .ok (.istore_n 3, 1) := by decide +kernel
theorem dX5_as_43 : decode cX5_as 43 = .ok (.goto (-14), 3) := by decide +kernel
theorem dX5_as_46 : decode cX5_as 46 = .ok (.iload_n 3, 1) := by decide +kernel
theorem dX5_as_47 : decode cX5_as 47 = .ok (.iload_n 2, 1) := by decide +kernel
theorem dX5_as_48 : decode cX5_as 48 = .ok (.if_icmp .ne 12, 3) := by decide +kernel
theorem dX5_as_51 : decode cX5_as 51 = .ok (.aload_n 0, 1) := by decide +kernel
theorem dX5_as_52 : decode cX5_as 52 = .ok (.iload_n 1, 1) := by decide +kernel
theorem dX5_as_53 : decode cX5_as 53 = .ok (.iconst 2, 1) := by decide +kernel
theorem dX5_as_54 : decode cX5_as 54 = .ok (.invokevirtual 63, 3) := by decide +kernel
theorem dX5_as_57 : decode cX5_as 57 = .ok (.goto 9, 3) := by decide +kernel
theorem dX5_as_60 : decode cX5_as 60 = .ok (.aload_n 0, 1) := by decide +kernel
theorem dX5_as_61 : decode cX5_as 61 = .ok (.ldc 141, 2) := by decide +kernel
theorem dX5_as_63 : decode cX5_as 63 = .ok (.invokevirtual 74, 3) := by decide +kernel
theorem dX5_as_66 : decode cX5_as 66 = .ok (.ireturn, 1) := by decide +kernel
theorem dX5_levels_0 : decode cX5_levels 0 = .ok (.iload_n 1, 1) := by decide +kernel
theorem dX5_levels_1 : decode cX5_levels 1 = .ok (.iconst 0, 1) := by decide +kernel
theorem dX5_levels_2 : decode cX5_levels 2 = .ok (.invokestatic 59, 3) := by decide +kernel
theorem dX5_levels_5 : decode cX5_levels 5 = .ok (.istore_n 2, 1) := by decide +kernel
theorem dX5_levels_6 : decode cX5_levels 6 = .ok (.iload_n 2, 1) := by decide +kernel
theorem dX5_levels_7 : decode cX5_levels 7 = .ok (.aload_n 0, 1) := by decide +kernel
theorem dX5_levels_8 : decode cX5_levels 8 = .ok (.getfield 7, 3) := by decide +kernel
theorem dX5_levels_11 : decode cX5_levels 11 = .ok (.iconst 1, 1) := by decide +kernel
theorem dX5_levels_12 : decode cX5_levels 12 = .ok (.iaload, 1) := by decide +kernel
theorem dX5_levels_13 : decode cX5_levels 13 = .ok (.iconst 1, 1) := by decide +kernel
theorem dX5_levels_14 : decode cX5_levels 14 = .ok (.isub, 1) := by decide +kernel
theorem dX5_levels_15 : decode cX5_levels 15 = .ok (.iconst 0, 1) := by decide +kernel
theorem dX5_levels_16 : decode cX5_levels 16 = .ok (.invokestatic 59, 3) := by decide +kernel
theorem dX5_levels_19 : decode cX5_levels 19 = .ok (.if_icmp .ge 23, 3) := by decide +kernel
theorem dX5_levels_22 : decode cX5_levels 22 = .ok (.aload_n 0, 1) := by decide +kernel
theorem dX5_levels_23 : decode cX5_levels 23 = .ok (.getfield 7, 3) := by decide +kernel
theorem dX5_levels_26 : decode cX5_levels 26 = .ok (.iload_n 2, 1) := by decide +kernel
theorem dX5_levels_27 : decode cX5_levels 27 = .ok (.aload_n 0, 1) := by decide +kernel
theorem dX5_levels_28 : decode cX5_levels 28 = .ok (.getfield 7, 3) := by decide +kernel
theorem dX5_levels_31 : decode cX5_levels 31 = .ok (.iload_n 2, 1) := by decide +kernel
theorem dX5_levels_32 : decode cX5_levels 32 = .ok (.iconst 5, 1) := by decide +kernel
theorem dX5_levels_33 : decode cX5_levels 33 = .ok (.iadd, 1) := by decide +kernel
theorem dX5_levels_34 : decode cX5_levels 34 = .ok (.iaload, 1) := by decide +kernel
theorem dX5_levels_35 : decode cX5_levels 35 = .ok (.iastore, 1) := by decide +kernel
theorem dX5_levels_36 : decode cX5_levels 36 = .ok (.iinc 2 1, 3) := by decide +kernel
theorem dX5_levels_39 : decode cX5_levels 39 = .ok (.goto (-33), 3) := by decide +kernel
theorem dX5_levels_42 : decode cX5_levels 42 = .ok (.aload_n 0, 1) := by decide +kernel
theorem dX5_levels_43 : decode cX5_levels 43 = .ok (.getfield 7, 3) := by decide +kernel
theorem dX5_levels_46 : decode cX5_levels 46 = .ok (.iconst 1, 1) := by decide +kernel
theorem dX5_levels_47 : decode cX5_levels 47 = .ok (.dup2, 1) := by decide +kernel
theorem dX5_levels_48 : decode cX5_levels 48 = .ok (.iaload, 1) := by decide +kernel
theorem dX5_levels_49 : decode cX5_levels 49 = .ok (.iconst 1, 1) := by decide +kernel
theorem dX5_levels_50 : decode cX5_levels 50 = .ok (.isub, 1) := by decide +kernel
theorem dX5_levels_51 : decode cX5_levels 51 = .ok (.iastore, 1) := by decide +kernel
theorem dX5_levels_52 : decode cX5_levels 52 = .ok (.return_, 1) := by decide +kernel
theorem dX5_level_0 : decode cX5_level 0 = .ok (.aload_n 0, 1) := by decide +kernel
theorem dX5_level_1 : decode cX5_level 1 = .ok (.iload_n 1, 1) := by decide +kernel
theorem dX5_level_2 : decode cX5_level 2 = .ok (.invokevirtual 127, 3) := by decide +kernel
theorem dX5_level_5 : decode cX5_level 5 = .ok (.ifCond .ne 10, 3) := by decide +kernel
theorem dX5_level_8 : decode cX5_level 8 = .ok (.aload_n 0, 1) := by decide +kernel
theorem dX5_level_9 : decode cX5_level 9 = .ok (.ldc 50, 2) := by decide +kernel
theorem dX5_level_11 : decode cX5_level 11 = .ok (.invokevirtual 74, 3) := by decide +kernel
theorem dX5_level_14 : decode cX5_level 14 = .ok (.ireturn, 1) := by decide +kernel
theorem dX5_level_15 : decode cX5_level 15 = .ok (.aload_n 0, 1) := by decide +kernel
theorem dX5_level_16 : decode cX5_level 16 = .ok (.iload_n 1, 1) := by decide +kernel
theorem dX5_level_17 : decode cX5_level 17 = .ok (.iconst 3, 1) := by decide +kernel
theorem dX5_level_18 : decode cX5_level 18 = .ok (.invokevirtual 63, 3) := by decide +kernel
theorem dX5_level_21 : decode cX5_level 21 = .ok (.istore_n 2, 1) := by decide +kernel
theorem dX5_level_22 : decode cX5_level 22 = .ok (.aload_n 0, 1) := by decide +kernel
theorem dX5_level_23 : decode cX5_level 23 = .ok (.iload_n 1, 1) := by decide +kernel
theorem dX5_level_24 : decode cX5_level 24 = .ok (.invokevirtual 142, 3) := by decide +kernel
theorem dX5_level_27 : decode cX5_level 27 = .ok (.iload_n 2, 1) := by decide +kernel
theorem dX5_level_28 : decode cX5_level 28 = .ok (.ireturn, 1) := by decide +kernel
theorem dX5_lines_0 : decode cX5_lines 0 = .ok (.iconst 0, 1) := by decide +kernel
theorem dX5_lines_1 : decode cX5_lines 1 = .ok (.istore_n 1, 1) := by decide +kernel
theorem dX5_lines_2 : decode cX5_lines 2 = .ok (.iload_n 1, 1) := by decide +kernel
theorem dX5_lines_3 : decode cX5_lines 3 = .ok (.aload_n 0, 1) := by decide +kernel
theorem dX5_lines_4 : decode cX5_lines 4 = .ok (.getfield 7, 3) := by decide +kernel
theorem dX5_lines_7 : decode cX5_lines 7 = .ok (.iconst 1, 1) := by decide +kernel
theorem dX5_lines_8 : decode cX5_lines 8 = .ok (.iaload, 1) := by decide +kernel
theorem dX5_lines_9 : decode cX5_lines 9 = .ok (.if_icmp .ge 58, 3) := by decide +kernel
theorem dX5_lines_12 : decode cX5_lines 12 = .ok (.iconst 0, 1) := by decide +kernel
theorem dX5_lines_13 : decode cX5_lines 13 = .ok (.istore_n 2, 1) := by decide +kernel
theorem dX5_lines_14 : decode cX5_lines 14 = .ok (.iconst 0, 1) := by decide +kernel
theorem dX5_lines_15 : decode cX5_lines 15 = .ok (.istore_n 3, 1) := by decide +kernel
theorem dX5_lines_16 : decode cX5_lines 16 = .ok (.iload_n 3, 1) := by decide +kernel
theorem dX5_lines_17 : decode cX5_lines 17 = .ok (.aload_n 0, 1) := by decide +kernel
theorem dX5_lines_18 : decode cX5_lines 18 = .ok (.getfield 7, 3) := by decide +kernel
theorem dX5_lines_21 : decode cX5_lines 21 = .ok (.iconst 1, 1) := by decide +kernel
theorem dX5_lines_22 : decode cX5_lines 22 = .ok (.iaload, 1) := by decide +kernel
theorem dX5_lines_23 : decode cX5_lines 23 = .ok (.if_icmp .ge 31, 3) := by decide +kernel
theorem dX5_lines_26 : decode cX5_lines 26 = .ok (.iload_n 2, 1) := by decide +kernel
theorem dX5_lines_27 : decode cX5_lines 27 = .ok (.iload_n 3, 1) := by decide +kernel
theorem dX5_lines_28 : decode cX5_lines 28 = .ok (.iload_n 1, 1) := by decide +kernel
theorem dX5_lines_29 : decode cX5_lines 29 = .ok (.if_icmp .eq 16, 3) := by decide +kernel
theorem dX5_lines_32 : decode cX5_lines 32 = .ok (.aload_n 0, 1) := by decide +kernel
theorem dX5_lines_33 : decode cX5_lines 33 = .ok (.iload_n 3, 1) := by decide +kernel
theorem dX5_lines_34 : decode cX5_lines 34 = .ok (.iload_n 1, 1) := by decide +kernel
theorem dX5_lines_35 : decode cX5_lines 35 = .ok (.invokevirtual 116, 3) := by decide +kernel
theorem dX5_lines_38 : decode cX5_lines 38 = .ok (.ifCond .eq 7, 3) := by decide +kernel
theorem dX5_lines_41 : decode cX5_lines 41 = .ok (.iconst 1, 1) := by decide +kernel
theorem dX5_lines_42 : decode cX5_lines 42 = .ok (.goto 4, 3) := by decide +kernel
theorem dX5_lines_45 : decode cX5_lines 45 = .ok (.iconst 0, 1) := by decide +kernel
theorem dX5_lines_46 : decode cX5_lines 46 = .ok (.iadd, 1) := by decide +kernel
theorem dX5_lines_47 : decode cX5_lines 47 = .ok (.istore_n 2, 1) := by decide +kernel
theorem dX5_lines_48 : decode cX5_lines 48 = .ok (.iinc 3 1, 3) := by decide +kernel
theorem dX5_lines_51 : decode cX5_lines 51 = .ok (.goto (-35), 3) := by decide +kernel
theorem dX5_lines_54 : decode cX5_lines 54 = .ok (.aload_n 0, 1) := by decide +kernel
theorem dX5_lines_55 : decode cX5_lines 55 = .ok (.getfield 28, 3) := by decide +kernel
theorem dX5_lines_58 : decode cX5_lines 58 = .ok (.iload_n 2, 1) := by decide +kernel
theorem dX5_lines_59 : decode cX5_lines 59 = .ok (.iload_n 1, 1) := by decide +kernel
theorem dX5_lines_60 : decode cX5_lines 60 = .ok (.iastore, 1) := by decide +kernel
theorem dX5_lines_61 : decode cX5_lines 61 = .ok (.iinc 1 1, 3) := by decide +kernel
theorem dX5_lines_64 : decode cX5_lines 64 = .ok (.goto (-62), 3) := by decide +kernel
theorem dX5_lines_67 : decode cX5_lines 67 = .ok (.return_, 1) := by decide +kernel
theorem dX5_goesOne_0 : decode cX5_goesOne 0 = .ok (.aload_n 0, 1) := by decide +kernel
theorem dX5_goesOne_1 : decode cX5_goesOne 1 = .ok (.iload_n 1, 1) := by decide +kernel
theorem dX5_goesOne_2 : decode cX5_goesOne 2 = .ok (.invokevirtual 132, 3) := by decide +kernel
theorem dX5_goesOne_5 : decode cX5_goesOne 5 = .ok (.istore_n 2, 1) := by decide +kernel
theorem dX5_goesOne_6 : decode cX5_goesOne 6 = .ok (.iconst 0, 1) := by decide +kernel
theorem dX5_goesOne_7 : decode cX5_goesOne 7 = .ok (.istore_n 3, 1) := by decide +kernel
theorem dX5_goesOne_8 : decode cX5_goesOne 8 = .ok (.iload_n 3, 1) := by decide +kernel
theorem dX5_goesOne_9 : decode cX5_goesOne 9 = .ok (.iload_n 2, 1) := by decide +kernel
theorem dX5_goesOne_10 : decode cX5_goesOne 10 = .ok (.if_icmp .ge 7, 3) := by decide +kernel
theorem dX5_goesOne_13 : decode cX5_goesOne 13 = .ok (.iconst 1, 1) := by decide +kernel
theorem dX5_goesOne_14 : decode cX5_goesOne 14 = .ok (.goto 4, 3) := by decide +kernel
theorem dX5_goesOne_17 : decode cX5_goesOne 17 = .ok (.iconst 0, 1) := by decide +kernel
theorem dX5_goesOne_18 : decode cX5_goesOne 18 = .ok (.istore 4, 2) := by decide +kernel
theorem dX5_goesOne_20 : decode cX5_goesOne 20 = .ok (.iload 4, 2) := by decide +kernel
theorem dX5_goesOne_22 : decode cX5_goesOne 22 = .ok (.ifCond .eq 79, 3) := by decide +kernel
theorem dX5_goesOne_25 : decode cX5_goesOne 25 = .ok (.aload_n 0, 1) := by decide +kernel
theorem dX5_goesOne_26 : decode cX5_goesOne 26 = .ok (.iload_n 1, 1) := by decide +kernel
theorem dX5_goesOne_27 : decode cX5_goesOne 27 = .ok (.iconst 1, 1) := by decide +kernel
theorem dX5_goesOne_28 : decode cX5_goesOne 28 = .ok (.invokevirtual 63, 3) := by decide +kernel
theorem dX5_goesOne_31 : decode cX5_goesOne 31 = .ok (.invokestatic 91, 3) := by decide +kernel
theorem dX5_goesOne_34 : decode cX5_goesOne 34 = .ok (.istore 5, 2) := by decide +kernel
theorem dX5_goesOne_36 : decode cX5_goesOne 36 = .ok (.aload_n 0, 1) := by decide +kernel
theorem dX5_goesOne_37 : decode cX5_goesOne 37 = .ok (.iload 5, 2) := by decide +kernel
theorem dX5_goesOne_39 : decode cX5_goesOne 39 = .ok (.invokevirtual 84, 3) := by decide +kernel
theorem dX5_goesOne_42 : decode cX5_goesOne 42 = .ok (.ifCond .eq 16, 3) := by decide +kernel
theorem dX5_goesOne_45 : decode cX5_goesOne 45 = .ok (.aload_n 0, 1) := by decide +kernel
theorem dX5_goesOne_46 : decode cX5_goesOne 46 = .ok (.iload 5, 2) := by decide +kernel
theorem dX5_goesOne_48 : decode cX5_goesOne 48 = .ok (.invokevirtual 87, 3) := by decide +kernel
theorem dX5_goesOne_51 : decode cX5_goesOne 51 = .ok (.ifCond .ge 7, 3) := by decide +kernel
theorem dX5_goesOne_54 : decode cX5_goesOne 54 = .ok (.iconst 1, 1) := by decide +kernel
theorem dX5_goesOne_55 : decode cX5_goesOne 55 = .ok (.goto 4, 3) := by decide +kernel
theorem dX5_goesOne_58 : decode cX5_goesOne 58 = .ok (.iconst 0, 1) := by decide +kernel
theorem dX5_goesOne_59 : decode cX5_goesOne 59 = .ok (.istore 6, 2) := by decide +kernel
theorem dX5_goesOne_61 : decode cX5_goesOne 61 = .ok (.iload 6, 2) := by decide +kernel
theorem dX5_goesOne_63 : decode cX5_goesOne 63 = .ok (.ifCond .eq 18, 3) := by decide +kernel
theorem dX5_goesOne_66 : decode cX5_goesOne 66 = .ok (.aload_n 0, 1) := by decide +kernel
theorem dX5_goesOne_67 : decode cX5_goesOne 67 = .ok (.getfield 7, 3) := by decide +kernel
theorem dX5_goesOne_70 : decode cX5_goesOne 70 = .ok (.iload_n 1, 1) := by decide +kernel
theorem dX5_goesOne_71 : decode cX5_goesOne 71 = .ok (.iconst 1, 1) := by decide +kernel
theorem dX5_goesOne_72 : decode cX5_goesOne 72 = .ok (.invokestatic 59, 3) := by decide +kernel
theorem dX5_goesOne_75 : decode cX5_goesOne 75 = .ok (.iload 5, 2) := by decide +kernel
theorem dX5_goesOne_77 : decode cX5_goesOne 77 = .ok (.iastore, 1) := by decide +kernel
theorem dX5_goesOne_78 : decode cX5_goesOne 78 = .ok (.iinc 3 1, 3) := by decide +kernel
theorem dX5_goesOne_81 : decode cX5_goesOne 81 = .ok (.iload 6, 2) := by decide +kernel
theorem dX5_goesOne_83 : decode cX5_goesOne 83 = .ok (.ifCond .eq 12, 3) := by decide +kernel
theorem dX5_goesOne_86 : decode cX5_goesOne 86 = .ok (.iload_n 3, 1) := by decide +kernel
theorem dX5_goesOne_87 : decode cX5_goesOne 87 = .ok (.iload_n 2, 1) := by decide +kernel
theorem dX5_goesOne_88 : decode cX5_goesOne 88 = .ok (.if_icmp .ge 7, 3) := by decide +kernel
theorem dX5_goesOne_91 : decode cX5_goesOne 91 = .ok (.iconst 1, 1) := by decide +kernel
theorem dX5_goesOne_92 : decode cX5_goesOne 92 = .ok (.goto 4, 3) := by decide +kernel
theorem dX5_goesOne_95 : decode cX5_goesOne 95 = .ok (.iconst 0, 1) := by decide +kernel
theorem dX5_goesOne_96 : decode cX5_goesOne 96 = .ok (.istore 4, 2) := by decide +kernel
theorem dX5_goesOne_98 : decode cX5_goesOne 98 = .ok (.goto (-78), 3) := by decide +kernel
theorem dX5_goesOne_101 : decode cX5_goesOne 101 = .ok (.aload_n 0, 1) := by decide +kernel
theorem dX5_goesOne_102 : decode cX5_goesOne 102 = .ok (.getfield 7, 3) := by decide +kernel
theorem dX5_goesOne_105 : decode cX5_goesOne 105 = .ok (.iload_n 1, 1) := by decide +kernel
theorem dX5_goesOne_106 : decode cX5_goesOne 106 = .ok (.iconst 3, 1) := by decide +kernel
theorem dX5_goesOne_107 : decode cX5_goesOne 107 = .ok (.invokestatic 59, 3) := by decide +kernel
theorem dX5_goesOne_110 : decode cX5_goesOne 110 = .ok (.dup2, 1) := by decide +kernel
theorem dX5_goesOne_111 : decode cX5_goesOne 111 = .ok (.iaload, 1) := by decide +kernel
theorem dX5_goesOne_112 : decode cX5_goesOne 112 = .ok (.iload_n 3, 1) := by decide +kernel
theorem dX5_goesOne_113 : decode cX5_goesOne 113 = .ok (.iadd, 1) := by decide +kernel
theorem dX5_goesOne_114 : decode cX5_goesOne 114 = .ok (.iastore, 1) := by decide +kernel
theorem dX5_goesOne_115 : decode cX5_goesOne 115 = .ok (.aload_n 0, 1) := by decide +kernel
theorem dX5_goesOne_116 : decode cX5_goesOne 116 = .ok (.getfield 7, 3) := by decide +kernel
theorem dX5_goesOne_119 : decode cX5_goesOne 119 = .ok (.iload_n 1, 1) := by decide +kernel
theorem dX5_goesOne_120 : decode cX5_goesOne 120 = .ok (.iconst 4, 1) := by decide +kernel
theorem dX5_goesOne_121 : decode cX5_goesOne 121 = .ok (.invokestatic 59, 3) := by decide +kernel
theorem dX5_goesOne_124 : decode cX5_goesOne 124 = .ok (.dup2, 1) := by decide +kernel
theorem dX5_goesOne_125 : decode cX5_goesOne 125 = .ok (.iaload, 1) := by decide +kernel
theorem dX5_goesOne_126 : decode cX5_goesOne 126 = .ok (.iload_n 3, 1) := by decide +kernel
theorem dX5_goesOne_127 : decode cX5_goesOne 127 = .ok (.iload_n 2, 1) := by decide +kernel
theorem dX5_goesOne_128 : decode cX5_goesOne 128 = .ok (.if_icmp .ge 7, 3) := by decide +kernel
theorem dX5_goesOne_131 : decode cX5_goesOne 131 = .ok (.iconst 1, 1) := by decide +kernel
theorem dX5_goesOne_132 : decode cX5_goesOne 132 = .ok (.goto 4, 3) := by decide +kernel
theorem dX5_goesOne_135 : decode cX5_goesOne 135 = .ok (.iconst 0, 1) := by decide +kernel
theorem dX5_goesOne_136 : decode cX5_goesOne 136 = .ok (.iadd, 1) := by decide +kernel
theorem dX5_goesOne_137 : decode cX5_goesOne 137 = .ok (.iastore, 1) := by decide +kernel
theorem dX5_goesOne_138 : decode cX5_goesOne 138 = .ok (.return_, 1) := by decide +kernel
theorem dX5_season_0 : decode cX5_season 0 = .ok (.aload_n 0, 1) := by decide +kernel
theorem dX5_season_1 : decode cX5_season 1 = .ok (.invokevirtual 146, 3) := by decide +kernel
theorem dX5_season_4 : decode cX5_season 4 = .ok (.iconst 0, 1) := by decide +kernel
theorem dX5_season_5 : decode cX5_season 5 = .ok (.istore_n 1, 1) := by decide +kernel
theorem dX5_season_6 : decode cX5_season 6 = .ok (.iload_n 1, 1) := by decide +kernel
theorem dX5_season_7 : decode cX5_season 7 = .ok (.aload_n 0, 1) := by decide +kernel
theorem dX5_season_8 : decode cX5_season 8 = .ok (.getfield 7, 3) := by decide +kernel
theorem dX5_season_11 : decode cX5_season 11 = .ok (.iconst 1, 1) := by decide +kernel
theorem dX5_season_12 : decode cX5_season 12 = .ok (.iaload, 1) := by decide +kernel
theorem dX5_season_13 : decode cX5_season 13 = .ok (.if_icmp .ge 19, 3) := by decide +kernel
theorem dX5_season_16 : decode cX5_season 16 = .ok (.aload_n 0, 1) := by decide +kernel
theorem dX5_season_17 : decode cX5_season 17 = .ok (.aload_n 0, 1) := by decide +kernel
theorem dX5_season_18 : decode cX5_season 18 = .ok (.getfield 28, 3) := by decide +kernel
theorem dX5_season_21 : decode cX5_season 21 = .ok (.iload_n 1, 1) := by decide +kernel
theorem dX5_season_22 : decode cX5_season 22 = .ok (.iaload, 1) := by decide +kernel
theorem dX5_season_23 : decode cX5_season 23 = .ok (.invokevirtual 149, 3) := by decide +kernel
theorem dX5_season_26 : decode cX5_season 26 = .ok (.iinc 1 1, 3) := by decide +kernel
theorem dX5_season_29 : decode cX5_season 29 = .ok (.goto (-23), 3) := by decide +kernel
theorem dX5_season_32 : decode cX5_season 32 = .ok (.aload_n 0, 1) := by decide +kernel
theorem dX5_season_33 : decode cX5_season 33 = .ok (.getfield 7, 3) := by decide +kernel
theorem dX5_season_36 : decode cX5_season 36 = .ok (.iconst 0, 1) := by decide +kernel
theorem dX5_season_37 : decode cX5_season 37 = .ok (.dup2, 1) := by decide +kernel
theorem dX5_season_38 : decode cX5_season 38 = .ok (.iaload, 1) := by decide +kernel
theorem dX5_season_39 : decode cX5_season 39 = .ok (.iconst 1, 1) := by decide +kernel
theorem dX5_season_40 : decode cX5_season 40 = .ok (.iadd, 1) := by decide +kernel
theorem dX5_season_41 : decode cX5_season 41 = .ok (.iastore, 1) := by decide +kernel
theorem dX5_season_42 : decode cX5_season 42 = .ok (.return_, 1) := by decide +kernel
theorem dX5_go_0 : decode cX5_go 0 = .ok (.iconst 0, 1) := by decide +kernel
theorem dX5_go_1 : decode cX5_go 1 = .ok (.istore_n 2, 1) := by decide +kernel
theorem dX5_go_2 : decode cX5_go 2 = .ok (.iload_n 2, 1) := by decide +kernel
theorem dX5_go_3 : decode cX5_go 3 = .ok (.iload_n 1, 1) := by decide +kernel
theorem dX5_go_4 : decode cX5_go 4 = .ok (.if_icmp .ge 13, 3) := by decide +kernel
theorem dX5_go_7 : decode cX5_go 7 = .ok (.aload_n 0, 1) := by decide +kernel
theorem dX5_go_8 : decode cX5_go 8 = .ok (.invokevirtual 152, 3) := by decide +kernel
theorem dX5_go_11 : decode cX5_go 11 = .ok (.iinc 2 1, 3) := by decide +kernel
theorem dX5_go_14 : decode cX5_go 14 = .ok (.goto (-12), 3) := by decide +kernel
theorem dX5_go_17 : decode cX5_go 17 = .ok (.return_, 1) := by decide +kernel
theorem dX5_seasons_0 : decode cX5_seasons 0 = .ok (.iload_n 1, 1) := by decide +kernel
theorem dX5_seasons_1 : decode cX5_seasons 1 = .ok (.i2l, 1) := by decide +kernel
theorem dX5_seasons_2 : decode cX5_seasons 2 = .ok (.lconst 1, 1) := by decide +kernel
theorem dX5_seasons_3 : decode cX5_seasons 3 = .ok (.ldc2_w 155, 3) := by decide +kernel
theorem dX5_seasons_6 : decode cX5_seasons 6 = .ok (.invokestatic 53, 3) := by decide +kernel
theorem dX5_seasons_9 : decode cX5_seasons 9 = .ok (.ifCond .ne 10, 3) := by decide +kernel
theorem dX5_seasons_12 : decode cX5_seasons 12 = .ok (.aload_n 0, 1) := by decide +kernel
theorem dX5_seasons_13 : decode cX5_seasons 13 = .ok (.ldc 50, 2) := by decide +kernel
theorem dX5_seasons_15 : decode cX5_seasons 15 = .ok (.invokevirtual 74, 3) := by decide +kernel
theorem dX5_seasons_18 : decode cX5_seasons 18 = .ok (.ireturn, 1) := by decide +kernel
theorem dX5_seasons_19 : decode cX5_seasons 19 = .ok (.aload_n 0, 1) := by decide +kernel
theorem dX5_seasons_20 : decode cX5_seasons 20 = .ok (.getfield 7, 3) := by decide +kernel
theorem dX5_seasons_23 : decode cX5_seasons 23 = .ok (.iconst 0, 1) := by decide +kernel
theorem dX5_seasons_24 : decode cX5_seasons 24 = .ok (.iaload, 1) := by decide +kernel
theorem dX5_seasons_25 : decode cX5_seasons 25 = .ok (.iload_n 1, 1) := by decide +kernel
theorem dX5_seasons_26 : decode cX5_seasons 26 = .ok (.iadd, 1) := by decide +kernel
theorem dX5_seasons_27 : decode cX5_seasons 27 = .ok (.sipush 9999, 3) := by decide +kernel
theorem dX5_seasons_30 : decode cX5_seasons 30 = .ok (.if_icmp .le 10, 3) := by decide +kernel
theorem dX5_seasons_33 : decode cX5_seasons 33 = .ok (.aload_n 0, 1) := by decide +kernel
theorem dX5_seasons_34 : decode cX5_seasons 34 = .ok (.ldc 123, 2) := by decide +kernel
theorem dX5_seasons_36 : decode cX5_seasons 36 = .ok (.invokevirtual 74, 3) := by decide +kernel
theorem dX5_seasons_39 : decode cX5_seasons 39 = .ok (.ireturn, 1) := by decide +kernel
theorem dX5_seasons_40 : decode cX5_seasons 40 = .ok (.aload_n 0, 1) := by decide +kernel
theorem dX5_seasons_41 : decode cX5_seasons 41 = .ok (.iload_n 1, 1) := by decide +kernel
theorem dX5_seasons_42 : decode cX5_seasons 42 = .ok (.invokevirtual 157, 3) := by decide +kernel
theorem dX5_seasons_45 : decode cX5_seasons 45 = .ok (.aload_n 0, 1) := by decide +kernel
theorem dX5_seasons_46 : decode cX5_seasons 46 = .ok (.iconst 3, 1) := by decide +kernel
theorem dX5_seasons_47 : decode cX5_seasons 47 = .ok (.invokevirtual 160, 3) := by decide +kernel
theorem dX5_seasons_50 : decode cX5_seasons 50 = .ok (.ireturn, 1) := by decide +kernel
theorem dX5_places_0 : decode cX5_places 0 = .ok (.iconst 0, 1) := by decide +kernel
theorem dX5_places_1 : decode cX5_places 1 = .ok (.istore_n 1, 1) := by decide +kernel
theorem dX5_places_2 : decode cX5_places 2 = .ok (.iconst 0, 1) := by decide +kernel
theorem dX5_places_3 : decode cX5_places 3 = .ok (.istore_n 2, 1) := by decide +kernel
theorem dX5_places_4 : decode cX5_places 4 = .ok (.iload_n 2, 1) := by decide +kernel
theorem dX5_places_5 : decode cX5_places 5 = .ok (.aload_n 0, 1) := by decide +kernel
theorem dX5_places_6 : decode cX5_places 6 = .ok (.getfield 7, 3) := by decide +kernel
theorem dX5_places_9 : decode cX5_places 9 = .ok (.iconst 1, 1) := by decide +kernel
theorem dX5_places_10 : decode cX5_places 10 = .ok (.iaload, 1) := by decide +kernel
theorem dX5_places_11 : decode cX5_places 11 = .ok (.if_icmp .ge 20, 3) := by decide +kernel
theorem dX5_places_14 : decode cX5_places 14 = .ok (.iload_n 1, 1) := by decide +kernel
theorem dX5_places_15 : decode cX5_places 15 = .ok (.iconst 1, 1) := by decide +kernel
theorem dX5_places_16 : decode cX5_places 16 = .ok (.aload_n 0, 1) := by decide +kernel
theorem dX5_places_17 : decode cX5_places 17 = .ok (.iload_n 2, 1) := by decide +kernel
theorem dX5_places_18 : decode cX5_places 18 = .ok (.iconst 1, 1) := by decide +kernel
theorem dX5_places_19 : decode cX5_places 19 = .ok (.invokevirtual 63, 3) := by decide +kernel
theorem dX5_places_22 : decode cX5_places 22 = .ok (.ishl, 1) := by decide +kernel
theorem dX5_places_23 : decode cX5_places 23 = .ok (.ior, 1) := by decide +kernel
theorem dX5_places_24 : decode cX5_places 24 = .ok (.istore_n 1, 1) := by decide +kernel
theorem dX5_places_25 : decode cX5_places 25 = .ok (.iinc 2 1, 3) := by decide +kernel
theorem dX5_places_28 : decode cX5_places 28 = .ok (.goto (-24), 3) := by decide +kernel
theorem dX5_places_31 : decode cX5_places 31 = .ok (.iload_n 1, 1) := by decide +kernel
theorem dX5_places_32 : decode cX5_places 32 = .ok (.ireturn, 1) := by decide +kernel
theorem dX5_openPasses_0 : decode cX5_openPasses 0 = .ok (.iconst 0, 1) := by decide +kernel
theorem dX5_openPasses_1 : decode cX5_openPasses 1 = .ok (.istore_n 1, 1) := by decide +kernel
theorem dX5_openPasses_2 : decode cX5_openPasses 2 = .ok (.iconst 0, 1) := by decide +kernel
theorem dX5_openPasses_3 : decode cX5_openPasses 3 = .ok (.istore_n 2, 1) := by decide +kernel
theorem dX5_openPasses_4 : decode cX5_openPasses 4 = .ok (.iload_n 2, 1) := by decide +kernel
theorem dX5_openPasses_5 : decode cX5_openPasses 5 = .ok (.bipush 24, 2) := by decide +kernel
theorem dX5_openPasses_7 : decode cX5_openPasses 7 = .ok (.if_icmp .ge 39, 3) := by decide +kernel
theorem dX5_openPasses_10 : decode cX5_openPasses 10 = .ok (.iload_n 1, 1) := by decide +kernel
theorem dX5_openPasses_11 : decode cX5_openPasses 11 = .ok (.aload_n 0, 1) := by decide +kernel
theorem dX5_openPasses_12 : decode cX5_openPasses 12 = .ok (.getfield 7, 3) := by decide +kernel
theorem dX5_openPasses_15 : decode cX5_openPasses 15 = .ok (.bipush 7, 2) := by decide +kernel
theorem dX5_openPasses_17 : decode cX5_openPasses 17 = .ok (.iload_n 2, 1) := by decide +kernel
theorem dX5_openPasses_18 : decode cX5_openPasses 18 = .ok (.iadd, 1) := by decide +kernel
theorem dX5_openPasses_19 : decode cX5_openPasses 19 = .ok (.iaload, 1) := by decide +kernel
theorem dX5_openPasses_20 : decode cX5_openPasses 20 = .ok (.ifCond .le 17, 3) := by decide +kernel
theorem dX5_openPasses_23 : decode cX5_openPasses 23 = .ok (.aload_n 0, 1) := by decide +kernel
theorem dX5_openPasses_24 : decode cX5_openPasses 24 = .ok (.iload_n 2, 1) := by decide +kernel
theorem dX5_openPasses_25 : decode cX5_openPasses 25 = .ok (.invokevirtual 84, 3) := by decide +kernel
theorem dX5_openPasses_28 : decode cX5_openPasses 28 = .ok (.ifCond .eq 9, 3) := by decide +kernel
theorem dX5_openPasses_31 : decode cX5_openPasses 31 = .ok (.iconst 1, 1) := by decide +kernel
theorem dX5_openPasses_32 : decode cX5_openPasses 32 = .ok (.iload_n 2, 1) := by decide +kernel
theorem dX5_openPasses_33 : decode cX5_openPasses 33 = .ok (.ishl, 1) := by decide +kernel
theorem dX5_openPasses_34 : decode cX5_openPasses 34 = .ok (.goto 4, 3) := by decide +kernel
theorem dX5_openPasses_37 : decode cX5_openPasses 37 = .ok (.iconst 0, 1) := by decide +kernel
theorem dX5_openPasses_38 : decode cX5_openPasses 38 = .ok (.ior, 1) := by decide +kernel
theorem dX5_openPasses_39 : decode cX5_openPasses 39 = .ok (.istore_n 1, 1) := by decide +kernel
theorem dX5_openPasses_40 : decode cX5_openPasses 40 = .ok (.iinc 2 1, 3) := by decide +kernel
theorem dX5_openPasses_43 : decode cX5_openPasses 43 = .ok (.goto (-39), 3) := by decide +kernel
theorem dX5_openPasses_46 : decode cX5_openPasses 46 = .ok (.iload_n 1, 1) := by decide +kernel
theorem dX5_openPasses_47 : decode cX5_openPasses 47 = .ok (.ireturn, 1) := by decide +kernel
theorem dX5_lits_0 : decode cX5_lits 0 = .ok (.iconst 0, 1) := by decide +kernel
theorem dX5_lits_1 : decode cX5_lits 1 = .ok (.istore_n 1, 1) := by decide +kernel
theorem dX5_lits_2 : decode cX5_lits 2 = .ok (.iconst 0, 1) := by decide +kernel
theorem dX5_lits_3 : decode cX5_lits 3 = .ok (.istore_n 2, 1) := by decide +kernel
theorem dX5_lits_4 : decode cX5_lits 4 = .ok (.iload_n 2, 1) := by decide +kernel
theorem dX5_lits_5 : decode cX5_lits 5 = .ok (.aload_n 0, 1) := by decide +kernel
theorem dX5_lits_6 : decode cX5_lits 6 = .ok (.getfield 7, 3) := by decide +kernel
theorem dX5_lits_9 : decode cX5_lits 9 = .ok (.iconst 2, 1) := by decide +kernel
theorem dX5_lits_10 : decode cX5_lits 10 = .ok (.iaload, 1) := by decide +kernel
theorem dX5_lits_11 : decode cX5_lits 11 = .ok (.if_icmp .ge 27, 3) := by decide +kernel
theorem dX5_lits_14 : decode cX5_lits 14 = .ok (.iload_n 1, 1) := by decide +kernel
theorem dX5_lits_15 : decode cX5_lits 15 = .ok (.aload_n 0, 1) := by decide +kernel
theorem dX5_lits_16 : decode cX5_lits 16 = .ok (.iload_n 2, 1) := by decide +kernel
theorem dX5_lits_17 : decode cX5_lits 17 = .ok (.invokevirtual 97, 3) := by decide +kernel
theorem dX5_lits_20 : decode cX5_lits 20 = .ok (.ifCond .eq 9, 3) := by decide +kernel
theorem dX5_lits_23 : decode cX5_lits 23 = .ok (.iconst 1, 1) := by decide +kernel
theorem dX5_lits_24 : decode cX5_lits 24 = .ok (.iload_n 2, 1) := by decide +kernel
theorem dX5_lits_25 : decode cX5_lits 25 = .ok (.ishl, 1) := by decide +kernel
theorem dX5_lits_26 : decode cX5_lits 26 = .ok (.goto 4, 3) := by decide +kernel
theorem dX5_lits_29 : decode cX5_lits 29 = .ok (.iconst 0, 1) := by decide +kernel
theorem dX5_lits_30 : decode cX5_lits 30 = .ok (.ior, 1) := by decide +kernel
theorem dX5_lits_31 : decode cX5_lits 31 = .ok (.istore_n 1, 1) := by decide +kernel
theorem dX5_lits_32 : decode cX5_lits 32 = .ok (.iinc 2 1, 3) := by decide +kernel
theorem dX5_lits_35 : decode cX5_lits 35 = .ok (.goto (-31), 3) := by decide +kernel
theorem dX5_lits_38 : decode cX5_lits 38 = .ok (.iload_n 1, 1) := by decide +kernel
theorem dX5_lits_39 : decode cX5_lits 39 = .ok (.ireturn, 1) := by decide +kernel
theorem dX5_now_0 : decode cX5_now 0 = .ok (.iload_n 1, 1) := by decide +kernel
theorem dX5_now_1 : decode cX5_now 1 = .ok (.tableswitch 90 0 6 #[43, 50, 56, 62, 67, 72, 77], 43) := by decide +kernel
theorem dX5_now_44 : decode cX5_now 44 = .ok (.aload_n 0, 1) := by decide +kernel
theorem dX5_now_45 : decode cX5_now 45 = .ok (.getfield 7, 3) := by decide +kernel
theorem dX5_now_48 : decode cX5_now 48 = .ok (.iconst 0, 1) := by decide +kernel
theorem dX5_now_49 : decode cX5_now 49 = .ok (.iaload, 1) := by decide +kernel
theorem dX5_now_50 : decode cX5_now 50 = .ok (.ireturn, 1) := by decide +kernel
theorem dX5_now_51 : decode cX5_now 51 = .ok (.aload_n 0, 1) := by decide +kernel
theorem dX5_now_52 : decode cX5_now 52 = .ok (.iconst 3, 1) := by decide +kernel
theorem dX5_now_53 : decode cX5_now 53 = .ok (.invokevirtual 160, 3) := by decide +kernel
theorem dX5_now_56 : decode cX5_now 56 = .ok (.ireturn, 1) := by decide +kernel
theorem dX5_now_57 : decode cX5_now 57 = .ok (.aload_n 0, 1) := by decide +kernel
theorem dX5_now_58 : decode cX5_now 58 = .ok (.iconst 4, 1) := by decide +kernel
theorem dX5_now_59 : decode cX5_now 59 = .ok (.invokevirtual 160, 3) := by decide +kernel
theorem dX5_now_62 : decode cX5_now 62 = .ok (.ireturn, 1) := by decide +kernel
theorem dX5_now_63 : decode cX5_now 63 = .ok (.aload_n 0, 1) := by decide +kernel
theorem dX5_now_64 : decode cX5_now 64 = .ok (.invokevirtual 163, 3) := by decide +kernel
theorem dX5_now_67 : decode cX5_now 67 = .ok (.ireturn, 1) := by decide +kernel
theorem dX5_now_68 : decode cX5_now 68 = .ok (.aload_n 0, 1) := by decide +kernel
theorem dX5_now_69 : decode cX5_now 69 = .ok (.invokevirtual 166, 3) := by decide +kernel
theorem dX5_now_72 : decode cX5_now 72 = .ok (.ireturn, 1) := by decide +kernel
theorem dX5_now_73 : decode cX5_now 73 = .ok (.aload_n 0, 1) := by decide +kernel
theorem dX5_now_74 : decode cX5_now 74 = .ok (.invokevirtual 169, 3) := by decide +kernel
theorem dX5_now_77 : decode cX5_now 77 = .ok (.ireturn, 1) := by decide +kernel
theorem dX5_now_78 : decode cX5_now 78 = .ok (.aload_n 0, 1) := by decide +kernel
theorem dX5_now_79 : decode cX5_now 79 = .ok (.invokevirtual 105, 3) := by decide +kernel
theorem dX5_now_82 : decode cX5_now 82 = .ok (.ifCond .eq 7, 3) := by decide +kernel
theorem dX5_now_85 : decode cX5_now 85 = .ok (.iconst 1, 1) := by decide +kernel
theorem dX5_now_86 : decode cX5_now 86 = .ok (.goto 4, 3) := by decide +kernel
theorem dX5_now_89 : decode cX5_now 89 = .ok (.iconst 0, 1) := by decide +kernel
theorem dX5_now_90 : decode cX5_now 90 = .ok (.ireturn, 1) := by decide +kernel
theorem dX5_now_91 : decode cX5_now 91 = .ok (.aload_n 0, 1) := by decide +kernel
theorem dX5_now_92 : decode cX5_now 92 = .ok (.ldc 50, 2) := by decide +kernel
theorem dX5_now_94 : decode cX5_now 94 = .ok (.invokevirtual 74, 3) := by decide +kernel
theorem dX5_now_97 : decode cX5_now 97 = .ok (.ireturn, 1) := by decide +kernel
theorem dX5_on_0 : decode cX5_on 0 = .ok (.aload_n 0, 1) := by decide +kernel
theorem dX5_on_1 : decode cX5_on 1 = .ok (.iload_n 1, 1) := by decide +kernel
theorem dX5_on_2 : decode cX5_on 2 = .ok (.invokevirtual 127, 3) := by decide +kernel
theorem dX5_on_5 : decode cX5_on 5 = .ok (.ifCond .eq 27, 3) := by decide +kernel
theorem dX5_on_8 : decode cX5_on 8 = .ok (.iload_n 2, 1) := by decide +kernel
theorem dX5_on_9 : decode cX5_on 9 = .ok (.i2l, 1) := by decide +kernel
theorem dX5_on_10 : decode cX5_on 10 = .ok (.lconst 0, 1) := by decide +kernel
theorem dX5_on_11 : decode cX5_on 11 = .ok (.ldc2_w 155, 3) := by decide +kernel
theorem dX5_on_14 : decode cX5_on 14 = .ok (.invokestatic 53, 3) := by decide +kernel
theorem dX5_on_17 : decode cX5_on 17 = .ok (.ifCond .eq 15, 3) := by decide +kernel
theorem dX5_on_20 : decode cX5_on 20 = .ok (.iload_n 3, 1) := by decide +kernel
theorem dX5_on_21 : decode cX5_on 21 = .ok (.i2l, 1) := by decide +kernel
theorem dX5_on_22 : decode cX5_on 22 = .ok (.lconst 0, 1) := by decide +kernel
theorem dX5_on_23 : decode cX5_on 23 = .ok (.ldc2_w 70, 3) := by decide +kernel
theorem dX5_on_26 : decode cX5_on 26 = .ok (.invokestatic 53, 3) := by decide +kernel
theorem dX5_on_29 : decode cX5_on 29 = .ok (.ifCond .ne 10, 3) := by decide +kernel
theorem dX5_on_32 : decode cX5_on 32 = .ok (.aload_n 0, 1) := by decide +kernel
theorem dX5_on_33 : decode cX5_on 33 = .ok (.ldc 50, 2) := by decide +kernel
theorem dX5_on_35 : decode cX5_on 35 = .ok (.invokevirtual 74, 3) := by decide +kernel
theorem dX5_on_38 : decode cX5_on 38 = .ok (.ireturn, 1) := by decide +kernel
theorem dX5_on_39 : decode cX5_on 39 = .ok (.aload_n 0, 1) := by decide +kernel
theorem dX5_on_40 : decode cX5_on 40 = .ok (.invokevirtual 172, 3) := by decide +kernel
theorem dX5_on_43 : decode cX5_on 43 = .ok (.aload_n 0, 1) := by decide +kernel
theorem dX5_on_44 : decode cX5_on 44 = .ok (.iload_n 2, 1) := by decide +kernel
theorem dX5_on_45 : decode cX5_on 45 = .ok (.invokevirtual 157, 3) := by decide +kernel
theorem dX5_on_48 : decode cX5_on 48 = .ok (.aload_n 0, 1) := by decide +kernel
theorem dX5_on_49 : decode cX5_on 49 = .ok (.aload_n 0, 1) := by decide +kernel
theorem dX5_on_50 : decode cX5_on 50 = .ok (.iload_n 1, 1) := by decide +kernel
theorem dX5_on_51 : decode cX5_on 51 = .ok (.iload_n 3, 1) := by decide +kernel
theorem dX5_on_52 : decode cX5_on 52 = .ok (.ifCond .ne 7, 3) := by decide +kernel
theorem dX5_on_55 : decode cX5_on 55 = .ok (.iconst 1, 1) := by decide +kernel
theorem dX5_on_56 : decode cX5_on 56 = .ok (.goto 13, 3) := by decide +kernel
theorem dX5_on_59 : decode cX5_on 59 = .ok (.iload_n 3, 1) := by decide +kernel
theorem dX5_on_60 : decode cX5_on 60 = .ok (.iconst 1, 1) := by decide +kernel
theorem dX5_on_61 : decode cX5_on 61 = .ok (.if_icmp .ne 7, 3) := by decide +kernel
theorem dX5_on_64 : decode cX5_on 64 = .ok (.iconst 3, 1) := by decide +kernel
theorem dX5_on_65 : decode cX5_on 65 = .ok (.goto 4, 3) := by decide +kernel
theorem dX5_on_68 : decode cX5_on 68 = .ok (.iconst 4, 1) := by decide +kernel
theorem dX5_on_69 : decode cX5_on 69 = .ok (.invokevirtual 63, 3) := by decide +kernel
theorem dX5_on_72 : decode cX5_on 72 = .ok (.invokevirtual 175, 3) := by decide +kernel
theorem dX5_on_75 : decode cX5_on 75 = .ok (.ireturn, 1) := by decide +kernel
theorem dX5_when_0 : decode cX5_when 0 = .ok (.aload_n 0, 1) := by decide +kernel
theorem dX5_when_1 : decode cX5_when 1 = .ok (.iload_n 1, 1) := by decide +kernel
theorem dX5_when_2 : decode cX5_when 2 = .ok (.invokevirtual 127, 3) := by decide +kernel
theorem dX5_when_5 : decode cX5_when 5 = .ok (.ifCond .eq 10, 3) := by decide +kernel
theorem dX5_when_8 : decode cX5_when 8 = .ok (.iload_n 2, 1) := by decide +kernel
theorem dX5_when_9 : decode cX5_when 9 = .ok (.invokestatic 66, 3) := by decide +kernel
theorem dX5_when_12 : decode cX5_when 12 = .ok (.ifCond .ne 10, 3) := by decide +kernel
theorem dX5_when_15 : decode cX5_when 15 = .ok (.aload_n 0, 1) := by decide +kernel
theorem dX5_when_16 : decode cX5_when 16 = .ok (.ldc 50, 2) := by decide +kernel
theorem dX5_when_18 : decode cX5_when 18 = .ok (.invokevirtual 74, 3) := by decide +kernel
theorem dX5_when_21 : decode cX5_when 21 = .ok (.ireturn, 1) := by decide +kernel
theorem dX5_when_22 : decode cX5_when 22 = .ok (.aload_n 0, 1) := by decide +kernel
theorem dX5_when_23 : decode cX5_when 23 = .ok (.invokevirtual 172, 3) := by decide +kernel
theorem dX5_when_26 : decode cX5_when 26 = .ok (.iconst 0, 1) := by decide +kernel
theorem dX5_when_27 : decode cX5_when 27 = .ok (.istore_n 3, 1) := by decide +kernel
theorem dX5_when_28 : decode cX5_when 28 = .ok (.iload_n 3, 1) := by decide +kernel
theorem dX5_when_29 : decode cX5_when 29 = .ok (.bipush 80, 2) := by decide +kernel
theorem dX5_when_31 : decode cX5_when 31 = .ok (.if_icmp .gt 23, 3) := by decide +kernel
theorem dX5_when_34 : decode cX5_when 34 = .ok (.aload_n 0, 1) := by decide +kernel
theorem dX5_when_35 : decode cX5_when 35 = .ok (.iload_n 1, 1) := by decide +kernel
theorem dX5_when_36 : decode cX5_when 36 = .ok (.iconst 1, 1) := by decide +kernel
theorem dX5_when_37 : decode cX5_when 37 = .ok (.invokevirtual 63, 3) := by decide +kernel
theorem dX5_when_40 : decode cX5_when 40 = .ok (.iload_n 2, 1) := by decide +kernel
theorem dX5_when_41 : decode cX5_when 41 = .ok (.if_icmp .eq 13, 3) := by decide +kernel
theorem dX5_when_44 : decode cX5_when 44 = .ok (.aload_n 0, 1) := by decide +kernel
theorem dX5_when_45 : decode cX5_when 45 = .ok (.invokevirtual 152, 3) := by decide +kernel
theorem dX5_when_48 : decode cX5_when 48 = .ok (.iinc 3 1, 3) := by decide +kernel
theorem dX5_when_51 : decode cX5_when 51 = .ok (.goto (-23), 3) := by decide +kernel
theorem dX5_when_54 : decode cX5_when 54 = .ok (.aload_n 0, 1) := by decide +kernel
theorem dX5_when_55 : decode cX5_when 55 = .ok (.iload_n 3, 1) := by decide +kernel
theorem dX5_when_56 : decode cX5_when 56 = .ok (.invokevirtual 175, 3) := by decide +kernel
theorem dX5_when_59 : decode cX5_when 59 = .ok (.istore 4, 2) := by decide +kernel
theorem dX5_when_61 : decode cX5_when 61 = .ok (.iload 4, 2) := by decide +kernel
theorem dX5_when_63 : decode cX5_when 63 = .ok (.bipush 80, 2) := by decide +kernel
theorem dX5_when_65 : decode cX5_when 65 = .ok (.if_icmp .le 12, 3) := by decide +kernel
theorem dX5_when_68 : decode cX5_when 68 = .ok (.aload_n 0, 1) := by decide +kernel
theorem dX5_when_69 : decode cX5_when 69 = .ok (.ldc 178, 2) := by decide +kernel
theorem dX5_when_71 : decode cX5_when 71 = .ok (.invokevirtual 74, 3) := by decide +kernel
theorem dX5_when_74 : decode cX5_when 74 = .ok (.goto 5, 3) := by decide +kernel
theorem dX5_when_77 : decode cX5_when 77 = .ok (.iload 4, 2) := by decide +kernel
theorem dX5_when_79 : decode cX5_when 79 = .ok (.ireturn, 1) := by decide +kernel
theorem dX5_lit_0 : decode cX5_lit 0 = .ok (.aload_n 0, 1) := by decide +kernel
theorem dX5_lit_1 : decode cX5_lit 1 = .ok (.iload_n 1, 1) := by decide +kernel
theorem dX5_lit_2 : decode cX5_lit 2 = .ok (.invokevirtual 94, 3) := by decide +kernel
theorem dX5_lit_5 : decode cX5_lit 5 = .ok (.ifCond .ne 10, 3) := by decide +kernel
theorem dX5_lit_8 : decode cX5_lit 8 = .ok (.aload_n 0, 1) := by decide +kernel
theorem dX5_lit_9 : decode cX5_lit 9 = .ok (.ldc 50, 2) := by decide +kernel
theorem dX5_lit_11 : decode cX5_lit 11 = .ok (.invokevirtual 74, 3) := by decide +kernel
theorem dX5_lit_14 : decode cX5_lit 14 = .ok (.ireturn, 1) := by decide +kernel
theorem dX5_lit_15 : decode cX5_lit 15 = .ok (.aload_n 0, 1) := by decide +kernel
theorem dX5_lit_16 : decode cX5_lit 16 = .ok (.invokevirtual 172, 3) := by decide +kernel
theorem dX5_lit_19 : decode cX5_lit 19 = .ok (.iconst 0, 1) := by decide +kernel
theorem dX5_lit_20 : decode cX5_lit 20 = .ok (.istore_n 2, 1) := by decide +kernel
theorem dX5_lit_21 : decode cX5_lit 21 = .ok (.iload_n 2, 1) := by decide +kernel
theorem dX5_lit_22 : decode cX5_lit 22 = .ok (.bipush 80, 2) := by decide +kernel
theorem dX5_lit_24 : decode cX5_lit 24 = .ok (.if_icmp .gt 21, 3) := by decide +kernel
theorem dX5_lit_27 : decode cX5_lit 27 = .ok (.aload_n 0, 1) := by decide +kernel
theorem dX5_lit_28 : decode cX5_lit 28 = .ok (.iload_n 1, 1) := by decide +kernel
theorem dX5_lit_29 : decode cX5_lit 29 = .ok (.invokevirtual 97, 3) := by decide +kernel
theorem dX5_lit_32 : decode cX5_lit 32 = .ok (.ifCond .ne 13, 3) := by decide +kernel
theorem dX5_lit_35 : decode cX5_lit 35 = .ok (.aload_n 0, 1) := by decide +kernel
theorem dX5_lit_36 : decode cX5_lit 36 = .ok (.invokevirtual 152, 3) := by decide +kernel
theorem dX5_lit_39 : decode cX5_lit 39 = .ok (.iinc 2 1, 3) := by decide +kernel
theorem dX5_lit_42 : decode cX5_lit 42 = .ok (.goto (-21), 3) := by decide +kernel
theorem dX5_lit_45 : decode cX5_lit 45 = .ok (.aload_n 0, 1) := by decide +kernel
theorem dX5_lit_46 : decode cX5_lit 46 = .ok (.iload_n 2, 1) := by decide +kernel
theorem dX5_lit_47 : decode cX5_lit 47 = .ok (.invokevirtual 175, 3) := by decide +kernel
theorem dX5_lit_50 : decode cX5_lit 50 = .ok (.istore_n 3, 1) := by decide +kernel
theorem dX5_lit_51 : decode cX5_lit 51 = .ok (.iload_n 3, 1) := by decide +kernel
theorem dX5_lit_52 : decode cX5_lit 52 = .ok (.bipush 80, 2) := by decide +kernel
theorem dX5_lit_54 : decode cX5_lit 54 = .ok (.if_icmp .le 12, 3) := by decide +kernel
theorem dX5_lit_57 : decode cX5_lit 57 = .ok (.aload_n 0, 1) := by decide +kernel
theorem dX5_lit_58 : decode cX5_lit 58 = .ok (.ldc 178, 2) := by decide +kernel
theorem dX5_lit_60 : decode cX5_lit 60 = .ok (.invokevirtual 74, 3) := by decide +kernel
theorem dX5_lit_63 : decode cX5_lit 63 = .ok (.goto 4, 3) := by decide +kernel
theorem dX5_lit_66 : decode cX5_lit 66 = .ok (.iload_n 3, 1) := by decide +kernel
theorem dX5_lit_67 : decode cX5_lit 67 = .ok (.ireturn, 1) := by decide +kernel
theorem dX5_sun_0 : decode cX5_sun 0 = .ok (.aload_n 0, 1) := by decide +kernel
theorem dX5_sun_1 : decode cX5_sun 1 = .ok (.iload_n 1, 1) := by decide +kernel
theorem dX5_sun_2 : decode cX5_sun 2 = .ok (.invokevirtual 94, 3) := by decide +kernel
theorem dX5_sun_5 : decode cX5_sun 5 = .ok (.ifCond .eq 15, 3) := by decide +kernel
theorem dX5_sun_8 : decode cX5_sun 8 = .ok (.iload_n 2, 1) := by decide +kernel
theorem dX5_sun_9 : decode cX5_sun 9 = .ok (.i2l, 1) := by decide +kernel
theorem dX5_sun_10 : decode cX5_sun 10 = .ok (.lconst 0, 1) := by decide +kernel
theorem dX5_sun_11 : decode cX5_sun 11 = .ok (.ldc2_w 155, 3) := by decide +kernel
theorem dX5_sun_14 : decode cX5_sun 14 = .ok (.invokestatic 53, 3) := by decide +kernel
theorem dX5_sun_17 : decode cX5_sun 17 = .ok (.ifCond .ne 10, 3) := by decide +kernel
theorem dX5_sun_20 : decode cX5_sun 20 = .ok (.aload_n 0, 1) := by decide +kernel
theorem dX5_sun_21 : decode cX5_sun 21 = .ok (.ldc 50, 2) := by decide +kernel
theorem dX5_sun_23 : decode cX5_sun 23 = .ok (.invokevirtual 74, 3) := by decide +kernel
theorem dX5_sun_26 : decode cX5_sun 26 = .ok (.ireturn, 1) := by decide +kernel
theorem dX5_sun_27 : decode cX5_sun 27 = .ok (.aload_n 0, 1) := by decide +kernel
theorem dX5_sun_28 : decode cX5_sun 28 = .ok (.invokevirtual 172, 3) := by decide +kernel
theorem dX5_sun_31 : decode cX5_sun 31 = .ok (.iconst 0, 1) := by decide +kernel
theorem dX5_sun_32 : decode cX5_sun 32 = .ok (.istore_n 3, 1) := by decide +kernel
theorem dX5_sun_33 : decode cX5_sun 33 = .ok (.iconst 0, 1) := by decide +kernel
theorem dX5_sun_34 : decode cX5_sun 34 = .ok (.istore 4, 2) := by decide +kernel
theorem dX5_sun_36 : decode cX5_sun 36 = .ok (.iload 4, 2) := by decide +kernel
theorem dX5_sun_38 : decode cX5_sun 38 = .ok (.iload_n 2, 1) := by decide +kernel
theorem dX5_sun_39 : decode cX5_sun 39 = .ok (.if_icmp .ge 29, 3) := by decide +kernel
theorem dX5_sun_42 : decode cX5_sun 42 = .ok (.aload_n 0, 1) := by decide +kernel
theorem dX5_sun_43 : decode cX5_sun 43 = .ok (.invokevirtual 152, 3) := by decide +kernel
theorem dX5_sun_46 : decode cX5_sun 46 = .ok (.iload_n 3, 1) := by decide +kernel
theorem dX5_sun_47 : decode cX5_sun 47 = .ok (.aload_n 0, 1) := by decide +kernel
theorem dX5_sun_48 : decode cX5_sun 48 = .ok (.iload_n 1, 1) := by decide +kernel
theorem dX5_sun_49 : decode cX5_sun 49 = .ok (.invokevirtual 97, 3) := by decide +kernel
theorem dX5_sun_52 : decode cX5_sun 52 = .ok (.ifCond .eq 7, 3) := by decide +kernel
theorem dX5_sun_55 : decode cX5_sun 55 = .ok (.iconst 1, 1) := by decide +kernel
theorem dX5_sun_56 : decode cX5_sun 56 = .ok (.goto 4, 3) := by decide +kernel
theorem dX5_sun_59 : decode cX5_sun 59 = .ok (.iconst 0, 1) := by decide +kernel
theorem dX5_sun_60 : decode cX5_sun 60 = .ok (.iadd, 1) := by decide +kernel
theorem dX5_sun_61 : decode cX5_sun 61 = .ok (.istore_n 3, 1) := by decide +kernel
theorem dX5_sun_62 : decode cX5_sun 62 = .ok (.iinc 4 1, 3) := by decide +kernel
theorem dX5_sun_65 : decode cX5_sun 65 = .ok (.goto (-29), 3) := by decide +kernel
theorem dX5_sun_68 : decode cX5_sun 68 = .ok (.aload_n 0, 1) := by decide +kernel
theorem dX5_sun_69 : decode cX5_sun 69 = .ok (.iload_n 3, 1) := by decide +kernel
theorem dX5_sun_70 : decode cX5_sun 70 = .ok (.invokevirtual 175, 3) := by decide +kernel
theorem dX5_sun_73 : decode cX5_sun 73 = .ok (.ireturn, 1) := by decide +kernel
theorem dX5_standing_0 : decode cX5_standing 0 = .ok (.iconst 0, 1) := by decide +kernel
theorem dX5_standing_1 : decode cX5_standing 1 = .ok (.istore_n 1, 1) := by decide +kernel
theorem dX5_standing_2 : decode cX5_standing 2 = .ok (.iload_n 1, 1) := by decide +kernel
theorem dX5_standing_3 : decode cX5_standing 3 = .ok (.aload_n 0, 1) := by decide +kernel
theorem dX5_standing_4 : decode cX5_standing 4 = .ok (.getfield 7, 3) := by decide +kernel
theorem dX5_standing_7 : decode cX5_standing 7 = .ok (.iconst 1, 1) := by decide +kernel
theorem dX5_standing_8 : decode cX5_standing 8 = .ok (.iaload, 1) := by decide +kernel
theorem dX5_standing_9 : decode cX5_standing 9 = .ok (.if_icmp .ge 21, 3) := by decide +kernel
theorem dX5_standing_12 : decode cX5_standing 12 = .ok (.aload_n 0, 1) := by decide +kernel
theorem dX5_standing_13 : decode cX5_standing 13 = .ok (.getfield 31, 3) := by decide +kernel
theorem dX5_standing_16 : decode cX5_standing 16 = .ok (.iload_n 1, 1) := by decide +kernel
theorem dX5_standing_17 : decode cX5_standing 17 = .ok (.aload_n 0, 1) := by decide +kernel
theorem dX5_standing_18 : decode cX5_standing 18 = .ok (.iload_n 1, 1) := by decide +kernel
theorem dX5_standing_19 : decode cX5_standing 19 = .ok (.iconst 3, 1) := by decide +kernel
theorem dX5_standing_20 : decode cX5_standing 20 = .ok (.invokevirtual 63, 3) := by decide +kernel
theorem dX5_standing_23 : decode cX5_standing 23 = .ok (.iastore, 1) := by decide +kernel
theorem dX5_standing_24 : decode cX5_standing 24 = .ok (.iinc 1 1, 3) := by decide +kernel
theorem dX5_standing_27 : decode cX5_standing 27 = .ok (.goto (-25), 3) := by decide +kernel
theorem dX5_standing_30 : decode cX5_standing 30 = .ok (.aload_n 0, 1) := by decide +kernel
theorem dX5_standing_31 : decode cX5_standing 31 = .ok (.bipush 80, 2) := by decide +kernel
theorem dX5_standing_33 : decode cX5_standing 33 = .ok (.invokevirtual 157, 3) := by decide +kernel
theorem dX5_standing_36 : decode cX5_standing 36 = .ok (.iconst 0, 1) := by decide +kernel
theorem dX5_standing_37 : decode cX5_standing 37 = .ok (.istore_n 1, 1) := by decide +kernel
theorem dX5_standing_38 : decode cX5_standing 38 = .ok (.iconst 0, 1) := by decide +kernel
theorem dX5_standing_39 : decode cX5_standing 39 = .ok (.istore_n 2, 1) := by decide +kernel
theorem dX5_standing_40 : decode cX5_standing 40 = .ok (.iload_n 2, 1) := by decide +kernel
theorem dX5_standing_41 : decode cX5_standing 41 = .ok (.aload_n 0, 1) := by decide +kernel
theorem dX5_standing_42 : decode cX5_standing 42 = .ok (.getfield 7, 3) := by decide +kernel
theorem dX5_standing_45 : decode cX5_standing 45 = .ok (.iconst 1, 1) := by decide +kernel
theorem dX5_standing_46 : decode cX5_standing 46 = .ok (.iaload, 1) := by decide +kernel
theorem dX5_standing_47 : decode cX5_standing 47 = .ok (.if_icmp .ge 34, 3) := by decide +kernel
theorem dX5_standing_50 : decode cX5_standing 50 = .ok (.iload_n 1, 1) := by decide +kernel
theorem dX5_standing_51 : decode cX5_standing 51 = .ok (.aload_n 0, 1) := by decide +kernel
theorem dX5_standing_52 : decode cX5_standing 52 = .ok (.iload_n 2, 1) := by decide +kernel
theorem dX5_standing_53 : decode cX5_standing 53 = .ok (.iconst 3, 1) := by decide +kernel
theorem dX5_standing_54 : decode cX5_standing 54 = .ok (.invokevirtual 63, 3) := by decide +kernel
theorem dX5_standing_57 : decode cX5_standing 57 = .ok (.aload_n 0, 1) := by decide +kernel
theorem dX5_standing_58 : decode cX5_standing 58 = .ok (.getfield 31, 3) := by decide +kernel
theorem dX5_standing_61 : decode cX5_standing 61 = .ok (.iload_n 2, 1) := by decide +kernel
theorem dX5_standing_62 : decode cX5_standing 62 = .ok (.iaload, 1) := by decide +kernel
theorem dX5_standing_63 : decode cX5_standing 63 = .ok (.if_icmp .ne 9, 3) := by decide +kernel
theorem dX5_standing_66 : decode cX5_standing 66 = .ok (.iconst 1, 1) := by decide +kernel
theorem dX5_standing_67 : decode cX5_standing 67 = .ok (.iload_n 2, 1) := by decide +kernel
theorem dX5_standing_68 : decode cX5_standing 68 = .ok (.ishl, 1) := by decide +kernel
theorem dX5_standing_69 : decode cX5_standing 69 = .ok (.goto 4, 3) := by decide +kernel
theorem dX5_standing_72 : decode cX5_standing 72 = .ok (.iconst 0, 1) := by decide +kernel
theorem dX5_standing_73 : decode cX5_standing 73 = .ok (.ior, 1) := by decide +kernel
theorem dX5_standing_74 : decode cX5_standing 74 = .ok (.istore_n 1, 1) := by decide +kernel
theorem dX5_standing_75 : decode cX5_standing 75 = .ok (.iinc 2 1, 3) := by decide +kernel
theorem dX5_standing_78 : decode cX5_standing 78 = .ok (.goto (-38), 3) := by decide +kernel
theorem dX5_standing_81 : decode cX5_standing 81 = .ok (.iload_n 1, 1) := by decide +kernel
theorem dX5_standing_82 : decode cX5_standing 82 = .ok (.ireturn, 1) := by decide +kernel
theorem dX5_ones_0 : decode cX5_ones 0 = .ok (.iconst 0, 1) := by decide +kernel
theorem dX5_ones_1 : decode cX5_ones 1 = .ok (.istore_n 1, 1) := by decide +kernel
theorem dX5_ones_2 : decode cX5_ones 2 = .ok (.iload_n 0, 1) := by decide +kernel
theorem dX5_ones_3 : decode cX5_ones 3 = .ok (.istore_n 2, 1) := by decide +kernel
theorem dX5_ones_4 : decode cX5_ones 4 = .ok (.iload_n 2, 1) := by decide +kernel
theorem dX5_ones_5 : decode cX5_ones 5 = .ok (.ifCond .eq 15, 3) := by decide +kernel
theorem dX5_ones_8 : decode cX5_ones 8 = .ok (.iinc 1 1, 3) := by decide +kernel
theorem dX5_ones_11 : decode cX5_ones 11 = .ok (.iload_n 2, 1) := by decide +kernel
theorem dX5_ones_12 : decode cX5_ones 12 = .ok (.iload_n 2, 1) := by decide +kernel
theorem dX5_ones_13 : decode cX5_ones 13 = .ok (.iconst 1, 1) := by decide +kernel
theorem dX5_ones_14 : decode cX5_ones 14 = .ok (.isub, 1) := by decide +kernel
theorem dX5_ones_15 : decode cX5_ones 15 = .ok (.iand, 1) := by decide +kernel
theorem dX5_ones_16 : decode cX5_ones 16 = .ok (.istore_n 2, 1) := by decide +kernel
theorem dX5_ones_17 : decode cX5_ones 17 = .ok (.goto (-13), 3) := by decide +kernel
theorem dX5_ones_20 : decode cX5_ones 20 = .ok (.iload_n 1, 1) := by decide +kernel
theorem dX5_ones_21 : decode cX5_ones 21 = .ok (.ireturn, 1) := by decide +kernel
theorem dX5_stands_0 : decode cX5_stands 0 = .ok (.aload_n 0, 1) := by decide +kernel
theorem dX5_stands_1 : decode cX5_stands 1 = .ok (.invokevirtual 172, 3) := by decide +kernel
theorem dX5_stands_4 : decode cX5_stands 4 = .ok (.aload_n 0, 1) := by decide +kernel
theorem dX5_stands_5 : decode cX5_stands 5 = .ok (.aload_n 0, 1) := by decide +kernel
theorem dX5_stands_6 : decode cX5_stands 6 = .ok (.invokevirtual 179, 3) := by decide +kernel
theorem dX5_stands_9 : decode cX5_stands 9 = .ok (.invokevirtual 175, 3) := by decide +kernel
theorem dX5_stands_12 : decode cX5_stands 12 = .ok (.ireturn, 1) := by decide +kernel
theorem dX5_aheadOf_0 : decode cX5_aheadOf 0 = .ok (.aload_n 0, 1) := by decide +kernel
theorem dX5_aheadOf_1 : decode cX5_aheadOf 1 = .ok (.iload_n 1, 1) := by decide +kernel
theorem dX5_aheadOf_2 : decode cX5_aheadOf 2 = .ok (.iconst 1, 1) := by decide +kernel
theorem dX5_aheadOf_3 : decode cX5_aheadOf 3 = .ok (.invokevirtual 63, 3) := by decide +kernel
theorem dX5_aheadOf_6 : decode cX5_aheadOf 6 = .ok (.invokestatic 91, 3) := by decide +kernel
theorem dX5_aheadOf_9 : decode cX5_aheadOf 9 = .ok (.istore_n 2, 1) := by decide +kernel
theorem dX5_aheadOf_10 : decode cX5_aheadOf 10 = .ok (.aload_n 0, 1) := by decide +kernel
theorem dX5_aheadOf_11 : decode cX5_aheadOf 11 = .ok (.iload_n 2, 1) := by decide +kernel
theorem dX5_aheadOf_12 : decode cX5_aheadOf 12 = .ok (.invokevirtual 84, 3) := by decide +kernel
theorem dX5_aheadOf_15 : decode cX5_aheadOf 15 = .ok (.ifCond .eq 11, 3) := by decide +kernel
theorem dX5_aheadOf_18 : decode cX5_aheadOf 18 = .ok (.aload_n 0, 1) := by decide +kernel
theorem dX5_aheadOf_19 : decode cX5_aheadOf 19 = .ok (.iload_n 2, 1) := by decide +kernel
theorem dX5_aheadOf_20 : decode cX5_aheadOf 20 = .ok (.invokevirtual 87, 3) := by decide +kernel
theorem dX5_aheadOf_23 : decode cX5_aheadOf 23 = .ok (.goto 4, 3) := by decide +kernel
theorem dX5_aheadOf_26 : decode cX5_aheadOf 26 = .ok (.iconst (-1), 1) := by decide +kernel
theorem dX5_aheadOf_27 : decode cX5_aheadOf 27 = .ok (.ireturn, 1) := by decide +kernel
theorem dX5_ahead_0 : decode cX5_ahead 0 = .ok (.aload_n 0, 1) := by decide +kernel
theorem dX5_ahead_1 : decode cX5_ahead 1 = .ok (.iload_n 1, 1) := by decide +kernel
theorem dX5_ahead_2 : decode cX5_ahead 2 = .ok (.invokevirtual 127, 3) := by decide +kernel
theorem dX5_ahead_5 : decode cX5_ahead 5 = .ok (.ifCond .eq 11, 3) := by decide +kernel
theorem dX5_ahead_8 : decode cX5_ahead 8 = .ok (.aload_n 0, 1) := by decide +kernel
theorem dX5_ahead_9 : decode cX5_ahead 9 = .ok (.iload_n 1, 1) := by decide +kernel
theorem dX5_ahead_10 : decode cX5_ahead 10 = .ok (.invokevirtual 182, 3) := by decide +kernel
theorem dX5_ahead_13 : decode cX5_ahead 13 = .ok (.goto 9, 3) := by decide +kernel
theorem dX5_ahead_16 : decode cX5_ahead 16 = .ok (.aload_n 0, 1) := by decide +kernel
theorem dX5_ahead_17 : decode cX5_ahead 17 = .ok (.ldc 50, 2) := by decide +kernel
theorem dX5_ahead_19 : decode cX5_ahead 19 = .ok (.invokevirtual 74, 3) := by decide +kernel
theorem dX5_ahead_22 : decode cX5_ahead 22 = .ok (.ireturn, 1) := by decide +kernel
theorem dX5_file_0 : decode cX5_file 0 = .ok (.aload_n 0, 1) := by decide +kernel
theorem dX5_file_1 : decode cX5_file 1 = .ok (.iload_n 1, 1) := by decide +kernel
theorem dX5_file_2 : decode cX5_file 2 = .ok (.invokevirtual 127, 3) := by decide +kernel
theorem dX5_file_5 : decode cX5_file 5 = .ok (.ifCond .ne 10, 3) := by decide +kernel
theorem dX5_file_8 : decode cX5_file 8 = .ok (.aload_n 0, 1) := by decide +kernel
theorem dX5_file_9 : decode cX5_file 9 = .ok (.ldc 50, 2) := by decide +kernel
theorem dX5_file_11 : decode cX5_file 11 = .ok (.invokevirtual 74, 3) := by decide +kernel
theorem dX5_file_14 : decode cX5_file 14 = .ok (.ireturn, 1) := by decide +kernel
theorem dX5_file_15 : decode cX5_file 15 = .ok (.iconst 0, 1) := by decide +kernel
theorem dX5_file_16 : decode cX5_file 16 = .ok (.istore_n 2, 1) := by decide +kernel
theorem dX5_file_17 : decode cX5_file 17 = .ok (.iload_n 1, 1) := by decide +kernel
theorem dX5_file_18 : decode cX5_file 18 = .ok (.istore_n 3, 1) := by decide +kernel
theorem dX5_file_19 : decode cX5_file 19 = .ok (.iload_n 3, 1) := by decide +kernel
theorem dX5_file_20 : decode cX5_file 20 = .ok (.ifCond .lt 26, 3) := by decide +kernel
theorem dX5_file_23 : decode cX5_file 23 = .ok (.iload_n 2, 1) := by decide +kernel
theorem dX5_file_24 : decode cX5_file 24 = .ok (.iload_n 3, 1) := by decide +kernel
theorem dX5_file_25 : decode cX5_file 25 = .ok (.ishr, 1) := by decide +kernel
theorem dX5_file_26 : decode cX5_file 26 = .ok (.iconst 1, 1) := by decide +kernel
theorem dX5_file_27 : decode cX5_file 27 = .ok (.iand, 1) := by decide +kernel
theorem dX5_file_28 : decode cX5_file 28 = .ok (.ifCond .ne 18, 3) := by decide +kernel
theorem dX5_file_31 : decode cX5_file 31 = .ok (.iload_n 2, 1) := by decide +kernel
theorem dX5_file_32 : decode cX5_file 32 = .ok (.iconst 1, 1) := by decide +kernel
theorem dX5_file_33 : decode cX5_file 33 = .ok (.iload_n 3, 1) := by decide +kernel
theorem dX5_file_34 : decode cX5_file 34 = .ok (.ishl, 1) := by decide +kernel
theorem dX5_file_35 : decode cX5_file 35 = .ok (.ior, 1) := by decide +kernel
theorem dX5_file_36 : decode cX5_file 36 = .ok (.istore_n 2, 1) := by decide +kernel
theorem dX5_file_37 : decode cX5_file 37 = .ok (.aload_n 0, 1) := by decide +kernel
theorem dX5_file_38 : decode cX5_file 38 = .ok (.iload_n 3, 1) := by decide +kernel
theorem dX5_file_39 : decode cX5_file 39 = .ok (.invokevirtual 182, 3) := by decide +kernel
theorem dX5_file_42 : decode cX5_file 42 = .ok (.istore_n 3, 1) := by decide +kernel
theorem dX5_file_43 : decode cX5_file 43 = .ok (.goto (-24), 3) := by decide +kernel
theorem dX5_file_46 : decode cX5_file 46 = .ok (.iload_n 2, 1) := by decide +kernel
theorem dX5_file_47 : decode cX5_file 47 = .ok (.ireturn, 1) := by decide +kernel
theorem dX5_frees_0 : decode cX5_frees 0 = .ok (.aload_n 0, 1) := by decide +kernel
theorem dX5_frees_1 : decode cX5_frees 1 = .ok (.invokevirtual 172, 3) := by decide +kernel
theorem dX5_frees_4 : decode cX5_frees 4 = .ok (.aload_n 0, 1) := by decide +kernel
theorem dX5_frees_5 : decode cX5_frees 5 = .ok (.aload_n 0, 1) := by decide +kernel
theorem dX5_frees_6 : decode cX5_frees 6 = .ok (.invokevirtual 179, 3) := by decide +kernel
theorem dX5_frees_9 : decode cX5_frees 9 = .ok (.invokevirtual 175, 3) := by decide +kernel
theorem dX5_frees_12 : decode cX5_frees 12 = .ok (.invokestatic 185, 3) := by decide +kernel
theorem dX5_frees_15 : decode cX5_frees 15 = .ok (.istore_n 1, 1) := by decide +kernel
theorem dX5_frees_16 : decode cX5_frees 16 = .ok (.iconst (-1), 1) := by decide +kernel
theorem dX5_frees_17 : decode cX5_frees 17 = .ok (.istore_n 2, 1) := by decide +kernel
theorem dX5_frees_18 : decode cX5_frees 18 = .ok (.aload_n 0, 1) := by decide +kernel
theorem dX5_frees_19 : decode cX5_frees 19 = .ok (.getfield 7, 3) := by decide +kernel
theorem dX5_frees_22 : decode cX5_frees 22 = .ok (.iconst 1, 1) := by decide +kernel
theorem dX5_frees_23 : decode cX5_frees 23 = .ok (.iaload, 1) := by decide +kernel
theorem dX5_frees_24 : decode cX5_frees 24 = .ok (.istore_n 3, 1) := by decide +kernel
theorem dX5_frees_25 : decode cX5_frees 25 = .ok (.iconst 0, 1) := by decide +kernel
theorem dX5_frees_26 : decode cX5_frees 26 = .ok (.istore 4, 2) := by decide +kernel
theorem dX5_frees_28 : decode cX5_frees 28 = .ok (.iload 4, 2) := by decide +kernel
theorem dX5_frees_30 : decode cX5_frees 30 = .ok (.iload_n 3, 1) := by decide +kernel
theorem dX5_frees_31 : decode cX5_frees 31 = .ok (.if_icmp .ge 54, 3) := by decide +kernel
theorem dX5_frees_34 : decode cX5_frees 34 = .ok (.aload_n 0, 1) := by decide +kernel
theorem dX5_frees_35 : decode cX5_frees 35 = .ok (.iload 4, 2) := by decide +kernel
theorem dX5_frees_37 : decode cX5_frees 37 = .ok (.invokevirtual 142, 3) := by decide +kernel
theorem dX5_frees_40 : decode cX5_frees 40 = .ok (.aload_n 0, 1) := by decide +kernel
theorem dX5_frees_41 : decode cX5_frees 41 = .ok (.aload_n 0, 1) := by decide +kernel
theorem dX5_frees_42 : decode cX5_frees 42 = .ok (.invokevirtual 179, 3) := by decide +kernel
theorem dX5_frees_45 : decode cX5_frees 45 = .ok (.invokevirtual 175, 3) := by decide +kernel
theorem dX5_frees_48 : decode cX5_frees 48 = .ok (.invokestatic 185, 3) := by decide +kernel
theorem dX5_frees_51 : decode cX5_frees 51 = .ok (.istore 5, 2) := by decide +kernel
theorem dX5_frees_53 : decode cX5_frees 53 = .ok (.iload 5, 2) := by decide +kernel
theorem dX5_frees_55 : decode cX5_frees 55 = .ok (.iload_n 1, 1) := by decide +kernel
theorem dX5_frees_56 : decode cX5_frees 56 = .ok (.if_icmp .ge 8, 3) := by decide +kernel
theorem dX5_frees_59 : decode cX5_frees 59 = .ok (.iload 4, 2) := by decide +kernel
theorem dX5_frees_61 : decode cX5_frees 61 = .ok (.goto 4, 3) := by decide +kernel
theorem dX5_frees_64 : decode cX5_frees 64 = .ok (.iload_n 2, 1) := by decide +kernel
theorem dX5_frees_65 : decode cX5_frees 65 = .ok (.istore_n 2, 1) := by decide +kernel
theorem dX5_frees_66 : decode cX5_frees 66 = .ok (.iload 5, 2) := by decide +kernel
theorem dX5_frees_68 : decode cX5_frees 68 = .ok (.iload_n 1, 1) := by decide +kernel
theorem dX5_frees_69 : decode cX5_frees 69 = .ok (.if_icmp .ge 8, 3) := by decide +kernel
theorem dX5_frees_72 : decode cX5_frees 72 = .ok (.iload 5, 2) := by decide +kernel
theorem dX5_frees_74 : decode cX5_frees 74 = .ok (.goto 4, 3) := by decide +kernel
theorem dX5_frees_77 : decode cX5_frees 77 = .ok (.iload_n 1, 1) := by decide +kernel
theorem dX5_frees_78 : decode cX5_frees 78 = .ok (.istore_n 1, 1) := by decide +kernel
theorem dX5_frees_79 : decode cX5_frees 79 = .ok (.iinc 4 1, 3) := by decide +kernel
theorem dX5_frees_82 : decode cX5_frees 82 = .ok (.goto (-54), 3) := by decide +kernel
theorem dX5_frees_85 : decode cX5_frees 85 = .ok (.iload_n 2, 1) := by decide +kernel
theorem dX5_frees_86 : decode cX5_frees 86 = .ok (.ifCond .ge 12, 3) := by decide +kernel
theorem dX5_frees_89 : decode cX5_frees 89 = .ok (.aload_n 0, 1) := by decide +kernel
theorem dX5_frees_90 : decode cX5_frees 90 = .ok (.ldc 178, 2) := by decide +kernel
theorem dX5_frees_92 : decode cX5_frees 92 = .ok (.invokevirtual 74, 3) := by decide +kernel
theorem dX5_frees_95 : decode cX5_frees 95 = .ok (.goto 4, 3) := by decide +kernel
theorem dX5_frees_98 : decode cX5_frees 98 = .ok (.iload_n 2, 1) := by decide +kernel
theorem dX5_frees_99 : decode cX5_frees 99 = .ok (.ireturn, 1) := by decide +kernel
theorem dX5_isSome_0 : decode cX5_isSome 0 = .ok (.iload_n 0, 1) := by decide +kernel
theorem dX5_isSome_1 : decode cX5_isSome 1 = .ok (.i2l, 1) := by decide +kernel
theorem dX5_isSome_2 : decode cX5_isSome 2 = .ok (.lconst 0, 1) := by decide +kernel
theorem dX5_isSome_3 : decode cX5_isSome 3 = .ok (.ldc2_w 188, 3) := by decide +kernel
theorem dX5_isSome_6 : decode cX5_isSome 6 = .ok (.invokestatic 53, 3) := by decide +kernel
theorem dX5_isSome_9 : decode cX5_isSome 9 = .ok (.ireturn, 1) := by decide +kernel
theorem dX5_goneOn_0 : decode cX5_goneOn 0 = .ok (.aload_n 0, 1) := by decide +kernel
theorem dX5_goneOn_1 : decode cX5_goneOn 1 = .ok (.iload_n 1, 1) := by decide +kernel
theorem dX5_goneOn_2 : decode cX5_goneOn 2 = .ok (.iconst 3, 1) := by decide +kernel
theorem dX5_goneOn_3 : decode cX5_goneOn 3 = .ok (.invokevirtual 63, 3) := by decide +kernel
theorem dX5_goneOn_6 : decode cX5_goneOn 6 = .ok (.istore_n 3, 1) := by decide +kernel
theorem dX5_goneOn_7 : decode cX5_goneOn 7 = .ok (.aload_n 0, 1) := by decide +kernel
theorem dX5_goneOn_8 : decode cX5_goneOn 8 = .ok (.iload_n 2, 1) := by decide +kernel
theorem dX5_goneOn_9 : decode cX5_goneOn 9 = .ok (.invokevirtual 157, 3) := by decide +kernel
theorem dX5_goneOn_12 : decode cX5_goneOn 12 = .ok (.aload_n 0, 1) := by decide +kernel
theorem dX5_goneOn_13 : decode cX5_goneOn 13 = .ok (.iload_n 1, 1) := by decide +kernel
theorem dX5_goneOn_14 : decode cX5_goneOn 14 = .ok (.iconst 3, 1) := by decide +kernel
theorem dX5_goneOn_15 : decode cX5_goneOn 15 = .ok (.invokevirtual 63, 3) := by decide +kernel
theorem dX5_goneOn_18 : decode cX5_goneOn 18 = .ok (.iload_n 3, 1) := by decide +kernel
theorem dX5_goneOn_19 : decode cX5_goneOn 19 = .ok (.isub, 1) := by decide +kernel
theorem dX5_goneOn_20 : decode cX5_goneOn 20 = .ok (.ireturn, 1) := by decide +kernel
theorem dX5_haste_0 : decode cX5_haste 0 = .ok (.aload_n 0, 1) := by decide +kernel
theorem dX5_haste_1 : decode cX5_haste 1 = .ok (.iload_n 1, 1) := by decide +kernel
theorem dX5_haste_2 : decode cX5_haste 2 = .ok (.invokevirtual 127, 3) := by decide +kernel
theorem dX5_haste_5 : decode cX5_haste 5 = .ok (.ifCond .eq 22, 3) := by decide +kernel
theorem dX5_haste_8 : decode cX5_haste 8 = .ok (.iload_n 2, 1) := by decide +kernel
theorem dX5_haste_9 : decode cX5_haste 9 = .ok (.i2l, 1) := by decide +kernel
theorem dX5_haste_10 : decode cX5_haste 10 = .ok (.lconst 0, 1) := by decide +kernel
theorem dX5_haste_11 : decode cX5_haste 11 = .ok (.ldc2_w 190, 3) := by decide +kernel
theorem dX5_haste_14 : decode cX5_haste 14 = .ok (.invokestatic 53, 3) := by decide +kernel
theorem dX5_haste_17 : decode cX5_haste 17 = .ok (.ifCond .eq 10, 3) := by decide +kernel
theorem dX5_haste_20 : decode cX5_haste 20 = .ok (.iload_n 3, 1) := by decide +kernel
theorem dX5_haste_21 : decode cX5_haste 21 = .ok (.invokestatic 192, 3) := by decide +kernel
theorem dX5_haste_24 : decode cX5_haste 24 = .ok (.ifCond .ne 10, 3) := by decide +kernel
theorem dX5_haste_27 : decode cX5_haste 27 = .ok (.aload_n 0, 1) := by decide +kernel
theorem dX5_haste_28 : decode cX5_haste 28 = .ok (.ldc 50, 2) := by decide +kernel
theorem dX5_haste_30 : decode cX5_haste 30 = .ok (.invokevirtual 74, 3) := by decide +kernel
theorem dX5_haste_33 : decode cX5_haste 33 = .ok (.ireturn, 1) := by decide +kernel
theorem dX5_haste_34 : decode cX5_haste 34 = .ok (.aload_n 0, 1) := by decide +kernel
theorem dX5_haste_35 : decode cX5_haste 35 = .ok (.invokevirtual 172, 3) := by decide +kernel
theorem dX5_haste_38 : decode cX5_haste 38 = .ok (.iconst 0, 1) := by decide +kernel
theorem dX5_haste_39 : decode cX5_haste 39 = .ok (.istore 4, 2) := by decide +kernel
theorem dX5_haste_41 : decode cX5_haste 41 = .ok (.iload 4, 2) := by decide +kernel
theorem dX5_haste_43 : decode cX5_haste 43 = .ok (.bipush 9, 2) := by decide +kernel
theorem dX5_haste_45 : decode cX5_haste 45 = .ok (.if_icmp .gt 38, 3) := by decide +kernel
theorem dX5_haste_48 : decode cX5_haste 48 = .ok (.aload_n 0, 1) := by decide +kernel
theorem dX5_haste_49 : decode cX5_haste 49 = .ok (.getfield 7, 3) := by decide +kernel
