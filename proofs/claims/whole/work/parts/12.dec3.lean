/-! decode rows -/
theorem bd_76_0 : decode (bn_b 76) 0 = .ok (.aload_n 0, 1) := by decide +kernel
theorem bd_76_1 : decode (bn_b 76) 1 = .ok (.invokespecial 1, 3) := by decide +kernel
theorem bd_76_4 : decode (bn_b 76) 4 = .ok (.aload_n 0, 1) := by decide +kernel
theorem bd_76_5 : decode (bn_b 76) 5 = .ok (.bipush 71, 2) := by decide +kernel
theorem bd_76_7 : decode (bn_b 76) 7 = .ok (.newarray .int, 2) := by decide +kernel
theorem bd_76_9 : decode (bn_b 76) 9 = .ok (.putfield 7, 3) := by decide +kernel
theorem bd_76_12 : decode (bn_b 76) 12 = .ok (.aload_n 0, 1) := by decide +kernel
theorem bd_76_13 : decode (bn_b 76) 13 = .ok (.bipush 71, 2) := by decide +kernel
theorem bd_76_15 : decode (bn_b 76) 15 = .ok (.newarray .int, 2) := by decide +kernel
theorem bd_76_17 : decode (bn_b 76) 17 = .ok (.putfield 13, 3) := by decide +kernel
theorem bd_76_20 : decode (bn_b 76) 20 = .ok (.aload_n 0, 1) := by decide +kernel
theorem bd_76_21 : decode (bn_b 76) 21 = .ok (.bipush 80, 2) := by decide +kernel
theorem bd_76_23 : decode (bn_b 76) 23 = .ok (.newarray .int, 2) := by decide +kernel
theorem bd_76_25 : decode (bn_b 76) 25 = .ok (.putfield 16, 3) := by decide +kernel
theorem bd_76_28 : decode (bn_b 76) 28 = .ok (.aload_n 0, 1) := by decide +kernel
theorem bd_76_29 : decode (bn_b 76) 29 = .ok (.sipush 1440, 3) := by decide +kernel
theorem bd_76_32 : decode (bn_b 76) 32 = .ok (.newarray .int, 2) := by decide +kernel
theorem bd_76_34 : decode (bn_b 76) 34 = .ok (.putfield 19, 3) := by decide +kernel
theorem bd_76_37 : decode (bn_b 76) 37 = .ok (.aload_n 0, 1) := by decide +kernel
theorem bd_76_38 : decode (bn_b 76) 38 = .ok (.bipush 20, 2) := by decide +kernel
theorem bd_76_40 : decode (bn_b 76) 40 = .ok (.newarray .long, 2) := by decide +kernel
theorem bd_76_42 : decode (bn_b 76) 42 = .ok (.putfield 22, 3) := by decide +kernel
theorem bd_76_45 : decode (bn_b 76) 45 = .ok (.aload_n 0, 1) := by decide +kernel
theorem bd_76_46 : decode (bn_b 76) 46 = .ok (.bipush 71, 2) := by decide +kernel
theorem bd_76_48 : decode (bn_b 76) 48 = .ok (.newarray .int, 2) := by decide +kernel
theorem bd_76_50 : decode (bn_b 76) 50 = .ok (.putfield 26, 3) := by decide +kernel
theorem bd_76_53 : decode (bn_b 76) 53 = .ok (.aload_n 0, 1) := by decide +kernel
theorem bd_76_54 : decode (bn_b 76) 54 = .ok (.sipush 11000, 3) := by decide +kernel
theorem bd_76_57 : decode (bn_b 76) 57 = .ok (.newarray .boolean, 2) := by decide +kernel
theorem bd_76_59 : decode (bn_b 76) 59 = .ok (.putfield 29, 3) := by decide +kernel
theorem bd_76_62 : decode (bn_b 76) 62 = .ok (.aload_n 0, 1) := by decide +kernel
theorem bd_76_63 : decode (bn_b 76) 63 = .ok (.sipush 11000, 3) := by decide +kernel
theorem bd_76_66 : decode (bn_b 76) 66 = .ok (.newarray .boolean, 2) := by decide +kernel
theorem bd_76_68 : decode (bn_b 76) 68 = .ok (.putfield 33, 3) := by decide +kernel
theorem bd_76_71 : decode (bn_b 76) 71 = .ok (.aload_n 0, 1) := by decide +kernel
theorem bd_76_72 : decode (bn_b 76) 72 = .ok (.bipush 10, 2) := by decide +kernel
theorem bd_76_74 : decode (bn_b 76) 74 = .ok (.newarray .int, 2) := by decide +kernel
theorem bd_76_76 : decode (bn_b 76) 76 = .ok (.putfield 36, 3) := by decide +kernel
theorem bd_76_79 : decode (bn_b 76) 79 = .ok (.aload_n 0, 1) := by decide +kernel
theorem bd_76_80 : decode (bn_b 76) 80 = .ok (.iconst 2, 1) := by decide +kernel
theorem bd_76_81 : decode (bn_b 76) 81 = .ok (.newarray .boolean, 2) := by decide +kernel
theorem bd_76_83 : decode (bn_b 76) 83 = .ok (.putfield 39, 3) := by decide +kernel
theorem bd_76_86 : decode (bn_b 76) 86 = .ok (.aload_n 0, 1) := by decide +kernel
theorem bd_76_87 : decode (bn_b 76) 87 = .ok (.sipush 144, 3) := by decide +kernel
theorem bd_76_90 : decode (bn_b 76) 90 = .ok (.newarray .int, 2) := by decide +kernel
theorem bd_76_92 : decode (bn_b 76) 92 = .ok (.putfield 42, 3) := by decide +kernel
theorem bd_76_95 : decode (bn_b 76) 95 = .ok (.aload_n 0, 1) := by decide +kernel
theorem bd_76_96 : decode (bn_b 76) 96 = .ok (.iconst 2, 1) := by decide +kernel
theorem bd_76_97 : decode (bn_b 76) 97 = .ok (.newarray .long, 2) := by decide +kernel
theorem bd_76_99 : decode (bn_b 76) 99 = .ok (.putfield 45, 3) := by decide +kernel
theorem bd_76_102 : decode (bn_b 76) 102 = .ok (.aload_n 0, 1) := by decide +kernel
theorem bd_76_103 : decode (bn_b 76) 103 = .ok (.bipush 9, 2) := by decide +kernel
theorem bd_76_105 : decode (bn_b 76) 105 = .ok (.putfield 48, 3) := by decide +kernel
theorem bd_76_108 : decode (bn_b 76) 108 = .ok (.aload_n 0, 1) := by decide +kernel
theorem bd_76_109 : decode (bn_b 76) 109 = .ok (.bipush 9, 2) := by decide +kernel
theorem bd_76_111 : decode (bn_b 76) 111 = .ok (.putfield 52, 3) := by decide +kernel
theorem bd_76_114 : decode (bn_b 76) 114 = .ok (.return_, 1) := by decide +kernel
theorem bd_77_0 : decode (bn_b 77) 0 = .ok (.lload_n 0, 1) := by decide +kernel
theorem bd_77_1 : decode (bn_b 77) 1 = .ok (.lload_n 2, 1) := by decide +kernel
theorem bd_77_2 : decode (bn_b 77) 2 = .ok (.lcmp, 1) := by decide +kernel
theorem bd_77_3 : decode (bn_b 77) 3 = .ok (.ifCond .lt 14, 3) := by decide +kernel
theorem bd_77_6 : decode (bn_b 77) 6 = .ok (.lload_n 0, 1) := by decide +kernel
theorem bd_77_7 : decode (bn_b 77) 7 = .ok (.lload 4, 2) := by decide +kernel
theorem bd_77_9 : decode (bn_b 77) 9 = .ok (.lcmp, 1) := by decide +kernel
theorem bd_77_10 : decode (bn_b 77) 10 = .ok (.ifCond .gt 7, 3) := by decide +kernel
theorem bd_77_13 : decode (bn_b 77) 13 = .ok (.iconst 1, 1) := by decide +kernel
theorem bd_77_14 : decode (bn_b 77) 14 = .ok (.goto 4, 3) := by decide +kernel
theorem bd_77_17 : decode (bn_b 77) 17 = .ok (.iconst 0, 1) := by decide +kernel
theorem bd_77_18 : decode (bn_b 77) 18 = .ok (.ireturn, 1) := by decide +kernel
theorem bd_78_0 : decode (bn_b 78) 0 = .ok (.iload_n 1, 1) := by decide +kernel
theorem bd_78_1 : decode (bn_b 78) 1 = .ok (.i2l, 1) := by decide +kernel
theorem bd_78_2 : decode (bn_b 78) 2 = .ok (.lconst 1, 1) := by decide +kernel
theorem bd_78_3 : decode (bn_b 78) 3 = .ok (.ldc2_w 55, 3) := by decide +kernel
theorem bd_78_6 : decode (bn_b 78) 6 = .ok (.invokestatic 57, 3) := by decide +kernel
theorem bd_78_9 : decode (bn_b 78) 9 = .ok (.ifCond .ne 6, 3) := by decide +kernel
theorem bd_78_12 : decode (bn_b 78) 12 = .ok (.bipush (-2), 2) := by decide +kernel
theorem bd_78_14 : decode (bn_b 78) 14 = .ok (.ireturn, 1) := by decide +kernel
theorem bd_78_15 : decode (bn_b 78) 15 = .ok (.aload_n 0, 1) := by decide +kernel
theorem bd_78_16 : decode (bn_b 78) 16 = .ok (.getfield 61, 3) := by decide +kernel
theorem bd_78_19 : decode (bn_b 78) 19 = .ok (.iload_n 1, 1) := by decide +kernel
theorem bd_78_20 : decode (bn_b 78) 20 = .ok (.iadd, 1) := by decide +kernel
theorem bd_78_21 : decode (bn_b 78) 21 = .ok (.bipush 80, 2) := by decide +kernel
theorem bd_78_23 : decode (bn_b 78) 23 = .ok (.if_icmp .le 6, 3) := by decide +kernel
theorem bd_78_26 : decode (bn_b 78) 26 = .ok (.bipush (-4), 2) := by decide +kernel
theorem bd_78_28 : decode (bn_b 78) 28 = .ok (.ireturn, 1) := by decide +kernel
theorem bd_78_29 : decode (bn_b 78) 29 = .ok (.iload_n 1, 1) := by decide +kernel
theorem bd_78_30 : decode (bn_b 78) 30 = .ok (.iconst 1, 1) := by decide +kernel
theorem bd_78_31 : decode (bn_b 78) 31 = .ok (.isub, 1) := by decide +kernel
theorem bd_78_32 : decode (bn_b 78) 32 = .ok (.istore 4, 2) := by decide +kernel
theorem bd_78_34 : decode (bn_b 78) 34 = .ok (.iload 4, 2) := by decide +kernel
theorem bd_78_36 : decode (bn_b 78) 36 = .ok (.ifCond .lt 40, 3) := by decide +kernel
theorem bd_78_39 : decode (bn_b 78) 39 = .ok (.aload_n 0, 1) := by decide +kernel
theorem bd_78_40 : decode (bn_b 78) 40 = .ok (.getfield 16, 3) := by decide +kernel
theorem bd_78_43 : decode (bn_b 78) 43 = .ok (.aload_n 0, 1) := by decide +kernel
theorem bd_78_44 : decode (bn_b 78) 44 = .ok (.getfield 61, 3) := by decide +kernel
theorem bd_78_47 : decode (bn_b 78) 47 = .ok (.lload_n 2, 1) := by decide +kernel
theorem bd_78_48 : decode (bn_b 78) 48 = .ok (.bipush 8, 2) := by decide +kernel
theorem bd_78_50 : decode (bn_b 78) 50 = .ok (.iload 4, 2) := by decide +kernel
theorem bd_78_52 : decode (bn_b 78) 52 = .ok (.imul, 1) := by decide +kernel
theorem bd_78_53 : decode (bn_b 78) 53 = .ok (.lshr, 1) := by decide +kernel
theorem bd_78_54 : decode (bn_b 78) 54 = .ok (.ldc2_w 64, 3) := by decide +kernel
theorem bd_78_57 : decode (bn_b 78) 57 = .ok (.land, 1) := by decide +kernel
theorem bd_78_58 : decode (bn_b 78) 58 = .ok (.l2i, 1) := by decide +kernel
theorem bd_78_59 : decode (bn_b 78) 59 = .ok (.iastore, 1) := by decide +kernel
theorem bd_78_60 : decode (bn_b 78) 60 = .ok (.aload_n 0, 1) := by decide +kernel
theorem bd_78_61 : decode (bn_b 78) 61 = .ok (.dup, 1) := by decide +kernel
theorem bd_78_62 : decode (bn_b 78) 62 = .ok (.getfield 61, 3) := by decide +kernel
theorem bd_78_65 : decode (bn_b 78) 65 = .ok (.iconst 1, 1) := by decide +kernel
theorem bd_78_66 : decode (bn_b 78) 66 = .ok (.iadd, 1) := by decide +kernel
theorem bd_78_67 : decode (bn_b 78) 67 = .ok (.putfield 61, 3) := by decide +kernel
theorem bd_78_70 : decode (bn_b 78) 70 = .ok (.iinc 4 (-1), 3) := by decide +kernel
theorem bd_78_73 : decode (bn_b 78) 73 = .ok (.goto (-39), 3) := by decide +kernel
theorem bd_78_76 : decode (bn_b 78) 76 = .ok (.aload_n 0, 1) := by decide +kernel
theorem bd_78_77 : decode (bn_b 78) 77 = .ok (.getfield 61, 3) := by decide +kernel
theorem bd_78_80 : decode (bn_b 78) 80 = .ok (.ireturn, 1) := by decide +kernel
theorem bd_79_0 : decode (bn_b 79) 0 = .ok (.aload_n 0, 1) := by decide +kernel
theorem bd_79_1 : decode (bn_b 79) 1 = .ok (.getfield 61, 3) := by decide +kernel
theorem bd_79_4 : decode (bn_b 79) 4 = .ok (.istore_n 1, 1) := by decide +kernel
theorem bd_79_5 : decode (bn_b 79) 5 = .ok (.aload_n 0, 1) := by decide +kernel
theorem bd_79_6 : decode (bn_b 79) 6 = .ok (.iconst 0, 1) := by decide +kernel
theorem bd_79_7 : decode (bn_b 79) 7 = .ok (.putfield 61, 3) := by decide +kernel
theorem bd_79_10 : decode (bn_b 79) 10 = .ok (.iload_n 1, 1) := by decide +kernel
theorem bd_79_11 : decode (bn_b 79) 11 = .ok (.ireturn, 1) := by decide +kernel
theorem bd_80_0 : decode (bn_b 80) 0 = .ok (.aload_n 0, 1) := by decide +kernel
theorem bd_80_1 : decode (bn_b 80) 1 = .ok (.getfield 66, 3) := by decide +kernel
theorem bd_80_4 : decode (bn_b 80) 4 = .ok (.bipush (-9), 2) := by decide +kernel
theorem bd_80_6 : decode (bn_b 80) 6 = .ok (.if_icmp .ne 29, 3) := by decide +kernel
theorem bd_80_9 : decode (bn_b 80) 9 = .ok (.aload_n 0, 1) := by decide +kernel
theorem bd_80_10 : decode (bn_b 80) 10 = .ok (.getfield 69, 3) := by decide +kernel
theorem bd_80_13 : decode (bn_b 80) 13 = .ok (.aload_n 0, 1) := by decide +kernel
theorem bd_80_14 : decode (bn_b 80) 14 = .ok (.getfield 61, 3) := by decide +kernel
theorem bd_80_17 : decode (bn_b 80) 17 = .ok (.if_icmp .ge 18, 3) := by decide +kernel
theorem bd_80_20 : decode (bn_b 80) 20 = .ok (.aload_n 0, 1) := by decide +kernel
theorem bd_80_21 : decode (bn_b 80) 21 = .ok (.getfield 16, 3) := by decide +kernel
theorem bd_80_24 : decode (bn_b 80) 24 = .ok (.aload_n 0, 1) := by decide +kernel
theorem bd_80_25 : decode (bn_b 80) 25 = .ok (.getfield 69, 3) := by decide +kernel
theorem bd_80_28 : decode (bn_b 80) 28 = .ok (.iaload, 1) := by decide +kernel
theorem bd_80_29 : decode (bn_b 80) 29 = .ok (.bipush 48, 2) := by decide +kernel
theorem bd_80_31 : decode (bn_b 80) 31 = .ok (.isub, 1) := by decide +kernel
theorem bd_80_32 : decode (bn_b 80) 32 = .ok (.goto 4, 3) := by decide +kernel
theorem bd_80_35 : decode (bn_b 80) 35 = .ok (.iconst (-1), 1) := by decide +kernel
theorem bd_80_36 : decode (bn_b 80) 36 = .ok (.istore_n 2, 1) := by decide +kernel
theorem bd_80_37 : decode (bn_b 80) 37 = .ok (.iload_n 2, 1) := by decide +kernel
theorem bd_80_38 : decode (bn_b 80) 38 = .ok (.i2l, 1) := by decide +kernel
theorem bd_80_39 : decode (bn_b 80) 39 = .ok (.lconst 0, 1) := by decide +kernel
theorem bd_80_40 : decode (bn_b 80) 40 = .ok (.ldc2_w 72, 3) := by decide +kernel
theorem bd_80_43 : decode (bn_b 80) 43 = .ok (.invokestatic 57, 3) := by decide +kernel
theorem bd_80_46 : decode (bn_b 80) 46 = .ok (.ifCond .eq 11, 3) := by decide +kernel
theorem bd_80_49 : decode (bn_b 80) 49 = .ok (.iload_n 1, 1) := by decide +kernel
theorem bd_80_50 : decode (bn_b 80) 50 = .ok (.iload_n 2, 1) := by decide +kernel
theorem bd_80_51 : decode (bn_b 80) 51 = .ok (.ishr, 1) := by decide +kernel
theorem bd_80_52 : decode (bn_b 80) 52 = .ok (.iconst 1, 1) := by decide +kernel
theorem bd_80_53 : decode (bn_b 80) 53 = .ok (.iand, 1) := by decide +kernel
theorem bd_80_54 : decode (bn_b 80) 54 = .ok (.ifCond .ne 29, 3) := by decide +kernel
theorem bd_80_57 : decode (bn_b 80) 57 = .ok (.aload_n 0, 1) := by decide +kernel
theorem bd_80_58 : decode (bn_b 80) 58 = .ok (.aload_n 0, 1) := by decide +kernel
theorem bd_80_59 : decode (bn_b 80) 59 = .ok (.getfield 66, 3) := by decide +kernel
theorem bd_80_62 : decode (bn_b 80) 62 = .ok (.bipush (-9), 2) := by decide +kernel
theorem bd_80_64 : decode (bn_b 80) 64 = .ok (.if_icmp .ne 10, 3) := by decide +kernel
theorem bd_80_67 : decode (bn_b 80) 67 = .ok (.aload_n 0, 1) := by decide +kernel
theorem bd_80_68 : decode (bn_b 80) 68 = .ok (.getfield 69, 3) := by decide +kernel
theorem bd_80_71 : decode (bn_b 80) 71 = .ok (.goto 7, 3) := by decide +kernel
theorem bd_80_74 : decode (bn_b 80) 74 = .ok (.aload_n 0, 1) := by decide +kernel
theorem bd_80_75 : decode (bn_b 80) 75 = .ok (.getfield 66, 3) := by decide +kernel
theorem bd_80_78 : decode (bn_b 80) 78 = .ok (.putfield 66, 3) := by decide +kernel
theorem bd_80_81 : decode (bn_b 80) 81 = .ok (.iconst 0, 1) := by decide +kernel
theorem bd_80_82 : decode (bn_b 80) 82 = .ok (.ireturn, 1) := by decide +kernel
theorem bd_80_83 : decode (bn_b 80) 83 = .ok (.aload_n 0, 1) := by decide +kernel
theorem bd_80_84 : decode (bn_b 80) 84 = .ok (.dup, 1) := by decide +kernel
theorem bd_80_85 : decode (bn_b 80) 85 = .ok (.getfield 69, 3) := by decide +kernel
theorem bd_80_88 : decode (bn_b 80) 88 = .ok (.iconst 1, 1) := by decide +kernel
theorem bd_80_89 : decode (bn_b 80) 89 = .ok (.iadd, 1) := by decide +kernel
theorem bd_80_90 : decode (bn_b 80) 90 = .ok (.putfield 69, 3) := by decide +kernel
theorem bd_80_93 : decode (bn_b 80) 93 = .ok (.iload_n 2, 1) := by decide +kernel
theorem bd_80_94 : decode (bn_b 80) 94 = .ok (.ireturn, 1) := by decide +kernel
theorem bd_81_0 : decode (bn_b 81) 0 = .ok (.iload_n 1, 1) := by decide +kernel
theorem bd_81_1 : decode (bn_b 81) 1 = .ok (.ifCond .ne 9, 3) := by decide +kernel
theorem bd_81_4 : decode (bn_b 81) 4 = .ok (.sipush 1022, 3) := by decide +kernel
theorem bd_81_7 : decode (bn_b 81) 7 = .ok (.goto 6, 3) := by decide +kernel
theorem bd_81_10 : decode (bn_b 81) 10 = .ok (.sipush 1023, 3) := by decide +kernel
theorem bd_81_13 : decode (bn_b 81) 13 = .ok (.istore_n 2, 1) := by decide +kernel
theorem bd_81_14 : decode (bn_b 81) 14 = .ok (.iconst 0, 1) := by decide +kernel
theorem bd_81_15 : decode (bn_b 81) 15 = .ok (.istore_n 3, 1) := by decide +kernel
theorem bd_81_16 : decode (bn_b 81) 16 = .ok (.iload_n 3, 1) := by decide +kernel
theorem bd_81_17 : decode (bn_b 81) 17 = .ok (.aload_n 0, 1) := by decide +kernel
theorem bd_81_18 : decode (bn_b 81) 18 = .ok (.getfield 74, 3) := by decide +kernel
theorem bd_81_21 : decode (bn_b 81) 21 = .ok (.if_icmp .ge 47, 3) := by decide +kernel
theorem bd_81_24 : decode (bn_b 81) 24 = .ok (.aload_n 0, 1) := by decide +kernel
theorem bd_81_25 : decode (bn_b 81) 25 = .ok (.getfield 7, 3) := by decide +kernel
theorem bd_81_28 : decode (bn_b 81) 28 = .ok (.bipush 20, 2) := by decide +kernel
theorem bd_81_30 : decode (bn_b 81) 30 = .ok (.iconst 5, 1) := by decide +kernel
theorem bd_81_31 : decode (bn_b 81) 31 = .ok (.iload_n 3, 1) := by decide +kernel
theorem bd_81_32 : decode (bn_b 81) 32 = .ok (.imul, 1) := by decide +kernel
theorem bd_81_33 : decode (bn_b 81) 33 = .ok (.iadd, 1) := by decide +kernel
theorem bd_81_34 : decode (bn_b 81) 34 = .ok (.iaload, 1) := by decide +kernel
theorem bd_81_35 : decode (bn_b 81) 35 = .ok (.istore 4, 2) := by decide +kernel
theorem bd_81_37 : decode (bn_b 81) 37 = .ok (.iload_n 2, 1) := by decide +kernel
theorem bd_81_38 : decode (bn_b 81) 38 = .ok (.iload 4, 2) := by decide +kernel
theorem bd_81_40 : decode (bn_b 81) 40 = .ok (.bipush 10, 2) := by decide +kernel
theorem bd_81_42 : decode (bn_b 81) 42 = .ok (.idiv, 1) := by decide +kernel
theorem bd_81_43 : decode (bn_b 81) 43 = .ok (.iload_n 1, 1) := by decide +kernel
theorem bd_81_44 : decode (bn_b 81) 44 = .ok (.if_icmp .ne 15, 3) := by decide +kernel
theorem bd_81_47 : decode (bn_b 81) 47 = .ok (.iconst 1, 1) := by decide +kernel
theorem bd_81_48 : decode (bn_b 81) 48 = .ok (.iload 4, 2) := by decide +kernel
theorem bd_81_50 : decode (bn_b 81) 50 = .ok (.bipush 10, 2) := by decide +kernel
theorem bd_81_52 : decode (bn_b 81) 52 = .ok (.irem, 1) := by decide +kernel
theorem bd_81_53 : decode (bn_b 81) 53 = .ok (.ishl, 1) := by decide +kernel
theorem bd_81_54 : decode (bn_b 81) 54 = .ok (.iconst (-1), 1) := by decide +kernel
theorem bd_81_55 : decode (bn_b 81) 55 = .ok (.ixor, 1) := by decide +kernel
theorem bd_81_56 : decode (bn_b 81) 56 = .ok (.goto 4, 3) := by decide +kernel
theorem bd_81_59 : decode (bn_b 81) 59 = .ok (.iconst (-1), 1) := by decide +kernel
theorem bd_81_60 : decode (bn_b 81) 60 = .ok (.iand, 1) := by decide +kernel
theorem bd_81_61 : decode (bn_b 81) 61 = .ok (.istore_n 2, 1) := by decide +kernel
theorem bd_81_62 : decode (bn_b 81) 62 = .ok (.iinc 3 1, 3) := by decide +kernel
theorem bd_81_65 : decode (bn_b 81) 65 = .ok (.goto (-49), 3) := by decide +kernel
theorem bd_81_68 : decode (bn_b 81) 68 = .ok (.iload_n 2, 1) := by decide +kernel
theorem bd_81_69 : decode (bn_b 81) 69 = .ok (.ireturn, 1) := by decide +kernel
theorem bd_82_0 : decode (bn_b 82) 0 = .ok (.aload_n 0, 1) := by decide +kernel
theorem bd_82_1 : decode (bn_b 82) 1 = .ok (.iconst 0, 1) := by decide +kernel
theorem bd_82_2 : decode (bn_b 82) 2 = .ok (.putfield 69, 3) := by decide +kernel
theorem bd_82_5 : decode (bn_b 82) 5 = .ok (.aload_n 0, 1) := by decide +kernel
theorem bd_82_6 : decode (bn_b 82) 6 = .ok (.bipush (-9), 2) := by decide +kernel
theorem bd_82_8 : decode (bn_b 82) 8 = .ok (.putfield 66, 3) := by decide +kernel
theorem bd_82_11 : decode (bn_b 82) 11 = .ok (.aload_n 0, 1) := by decide +kernel
theorem bd_82_12 : decode (bn_b 82) 12 = .ok (.iconst 0, 1) := by decide +kernel
theorem bd_82_13 : decode (bn_b 82) 13 = .ok (.putfield 77, 3) := by decide +kernel
theorem bd_82_16 : decode (bn_b 82) 16 = .ok (.aload_n 0, 1) := by decide +kernel
theorem bd_82_17 : decode (bn_b 82) 17 = .ok (.iconst 0, 1) := by decide +kernel
theorem bd_82_18 : decode (bn_b 82) 18 = .ok (.putfield 74, 3) := by decide +kernel
theorem bd_82_21 : decode (bn_b 82) 21 = .ok (.aload_n 0, 1) := by decide +kernel
theorem bd_82_22 : decode (bn_b 82) 22 = .ok (.getfield 61, 3) := by decide +kernel
theorem bd_82_25 : decode (bn_b 82) 25 = .ok (.ifCond .eq 14, 3) := by decide +kernel
theorem bd_82_28 : decode (bn_b 82) 28 = .ok (.aload_n 0, 1) := by decide +kernel
theorem bd_82_29 : decode (bn_b 82) 29 = .ok (.getfield 16, 3) := by decide +kernel
theorem bd_82_32 : decode (bn_b 82) 32 = .ok (.iconst 0, 1) := by decide +kernel
theorem bd_82_33 : decode (bn_b 82) 33 = .ok (.iaload, 1) := by decide +kernel
theorem bd_82_34 : decode (bn_b 82) 34 = .ok (.bipush 83, 2) := by decide +kernel
theorem bd_82_36 : decode (bn_b 82) 36 = .ok (.if_icmp .eq 5, 3) := by decide +kernel
theorem bd_82_39 : decode (bn_b 82) 39 = .ok (.iconst 0, 1) := by decide +kernel
theorem bd_82_40 : decode (bn_b 82) 40 = .ok (.ireturn, 1) := by decide +kernel
theorem bd_82_41 : decode (bn_b 82) 41 = .ok (.aload_n 0, 1) := by decide +kernel
theorem bd_82_42 : decode (bn_b 82) 42 = .ok (.iconst 1, 1) := by decide +kernel
theorem bd_82_43 : decode (bn_b 82) 43 = .ok (.putfield 69, 3) := by decide +kernel
theorem bd_82_46 : decode (bn_b 82) 46 = .ok (.aload_n 0, 1) := by decide +kernel
theorem bd_82_47 : decode (bn_b 82) 47 = .ok (.aload_n 0, 1) := by decide +kernel
theorem bd_82_48 : decode (bn_b 82) 48 = .ok (.bipush 7, 2) := by decide +kernel
theorem bd_82_50 : decode (bn_b 82) 50 = .ok (.invokevirtual 80, 3) := by decide +kernel
theorem bd_82_53 : decode (bn_b 82) 53 = .ok (.putfield 84, 3) := by decide +kernel
theorem bd_82_56 : decode (bn_b 82) 56 = .ok (.aload_n 0, 1) := by decide +kernel
theorem bd_82_57 : decode (bn_b 82) 57 = .ok (.aload_n 0, 1) := by decide +kernel
theorem bd_82_58 : decode (bn_b 82) 58 = .ok (.sipush 1022, 3) := by decide +kernel
theorem bd_82_61 : decode (bn_b 82) 61 = .ok (.invokevirtual 80, 3) := by decide +kernel
theorem bd_82_64 : decode (bn_b 82) 64 = .ok (.putfield 87, 3) := by decide +kernel
theorem bd_82_67 : decode (bn_b 82) 67 = .ok (.aload_n 0, 1) := by decide +kernel
theorem bd_82_68 : decode (bn_b 82) 68 = .ok (.aload_n 0, 1) := by decide +kernel
theorem bd_82_69 : decode (bn_b 82) 69 = .ok (.sipush 1022, 3) := by decide +kernel
theorem bd_82_72 : decode (bn_b 82) 72 = .ok (.invokevirtual 80, 3) := by decide +kernel
theorem bd_82_75 : decode (bn_b 82) 75 = .ok (.putfield 90, 3) := by decide +kernel
theorem bd_82_78 : decode (bn_b 82) 78 = .ok (.aload_n 0, 1) := by decide +kernel
theorem bd_82_79 : decode (bn_b 82) 79 = .ok (.getfield 66, 3) := by decide +kernel
theorem bd_82_82 : decode (bn_b 82) 82 = .ok (.bipush (-9), 2) := by decide +kernel
theorem bd_82_84 : decode (bn_b 82) 84 = .ok (.if_icmp .ne 159, 3) := by decide +kernel
theorem bd_82_87 : decode (bn_b 82) 87 = .ok (.aload_n 0, 1) := by decide +kernel
theorem bd_82_88 : decode (bn_b 82) 88 = .ok (.getfield 69, 3) := by decide +kernel
theorem bd_82_91 : decode (bn_b 82) 91 = .ok (.aload_n 0, 1) := by decide +kernel
theorem bd_82_92 : decode (bn_b 82) 92 = .ok (.getfield 61, 3) := by decide +kernel
theorem bd_82_95 : decode (bn_b 82) 95 = .ok (.if_icmp .ge 148, 3) := by decide +kernel
theorem bd_82_98 : decode (bn_b 82) 98 = .ok (.aload_n 0, 1) := by decide +kernel
theorem bd_82_99 : decode (bn_b 82) 99 = .ok (.getfield 16, 3) := by decide +kernel
theorem bd_82_102 : decode (bn_b 82) 102 = .ok (.aload_n 0, 1) := by decide +kernel
theorem bd_82_103 : decode (bn_b 82) 103 = .ok (.getfield 69, 3) := by decide +kernel
theorem bd_82_106 : decode (bn_b 82) 106 = .ok (.iaload, 1) := by decide +kernel
theorem bd_82_107 : decode (bn_b 82) 107 = .ok (.bipush 80, 2) := by decide +kernel
theorem bd_82_109 : decode (bn_b 82) 109 = .ok (.if_icmp .ne 86, 3) := by decide +kernel
theorem bd_82_112 : decode (bn_b 82) 112 = .ok (.aload_n 0, 1) := by decide +kernel
theorem bd_82_113 : decode (bn_b 82) 113 = .ok (.getfield 77, 3) := by decide +kernel
theorem bd_82_116 : decode (bn_b 82) 116 = .ok (.iconst 5, 1) := by decide +kernel
theorem bd_82_117 : decode (bn_b 82) 117 = .ok (.if_icmp .ge 78, 3) := by decide +kernel
theorem bd_82_120 : decode (bn_b 82) 120 = .ok (.aload_n 0, 1) := by decide +kernel
theorem bd_82_121 : decode (bn_b 82) 121 = .ok (.dup, 1) := by decide +kernel
theorem bd_82_122 : decode (bn_b 82) 122 = .ok (.getfield 69, 3) := by decide +kernel
theorem bd_82_125 : decode (bn_b 82) 125 = .ok (.iconst 1, 1) := by decide +kernel
theorem bd_82_126 : decode (bn_b 82) 126 = .ok (.iadd, 1) := by decide +kernel
theorem bd_82_127 : decode (bn_b 82) 127 = .ok (.putfield 69, 3) := by decide +kernel
theorem bd_82_130 : decode (bn_b 82) 130 = .ok (.iconst 4, 1) := by decide +kernel
theorem bd_82_131 : decode (bn_b 82) 131 = .ok (.aload_n 0, 1) := by decide +kernel
theorem bd_82_132 : decode (bn_b 82) 132 = .ok (.getfield 77, 3) := by decide +kernel
theorem bd_82_135 : decode (bn_b 82) 135 = .ok (.imul, 1) := by decide +kernel
theorem bd_82_136 : decode (bn_b 82) 136 = .ok (.istore_n 1, 1) := by decide +kernel
theorem bd_82_137 : decode (bn_b 82) 137 = .ok (.aload_n 0, 1) := by decide +kernel
theorem bd_82_138 : decode (bn_b 82) 138 = .ok (.getfield 7, 3) := by decide +kernel
theorem bd_82_141 : decode (bn_b 82) 141 = .ok (.iload_n 1, 1) := by decide +kernel
theorem bd_82_142 : decode (bn_b 82) 142 = .ok (.aload_n 0, 1) := by decide +kernel
theorem bd_82_143 : decode (bn_b 82) 143 = .ok (.iconst 2, 1) := by decide +kernel
theorem bd_82_144 : decode (bn_b 82) 144 = .ok (.aload_n 0, 1) := by decide +kernel
theorem bd_82_145 : decode (bn_b 82) 145 = .ok (.getfield 87, 3) := by decide +kernel
theorem bd_82_148 : decode (bn_b 82) 148 = .ok (.ishl, 1) := by decide +kernel
theorem bd_82_149 : decode (bn_b 82) 149 = .ok (.iconst 1, 1) := by decide +kernel
theorem bd_82_150 : decode (bn_b 82) 150 = .ok (.isub, 1) := by decide +kernel
theorem bd_82_151 : decode (bn_b 82) 151 = .ok (.invokevirtual 80, 3) := by decide +kernel
theorem bd_82_154 : decode (bn_b 82) 154 = .ok (.iastore, 1) := by decide +kernel
theorem bd_82_155 : decode (bn_b 82) 155 = .ok (.aload_n 0, 1) := by decide +kernel
theorem bd_82_156 : decode (bn_b 82) 156 = .ok (.getfield 7, 3) := by decide +kernel
theorem bd_82_159 : decode (bn_b 82) 159 = .ok (.iload_n 1, 1) := by decide +kernel
theorem bd_82_160 : decode (bn_b 82) 160 = .ok (.iconst 1, 1) := by decide +kernel
theorem bd_82_161 : decode (bn_b 82) 161 = .ok (.iadd, 1) := by decide +kernel
theorem bd_82_162 : decode (bn_b 82) 162 = .ok (.iconst 1, 1) := by decide +kernel
theorem bd_82_163 : decode (bn_b 82) 163 = .ok (.iastore, 1) := by decide +kernel
theorem bd_82_164 : decode (bn_b 82) 164 = .ok (.aload_n 0, 1) := by decide +kernel
theorem bd_82_165 : decode (bn_b 82) 165 = .ok (.getfield 7, 3) := by decide +kernel
theorem bd_82_168 : decode (bn_b 82) 168 = .ok (.iload_n 1, 1) := by decide +kernel
theorem bd_82_169 : decode (bn_b 82) 169 = .ok (.iconst 2, 1) := by decide +kernel
theorem bd_82_170 : decode (bn_b 82) 170 = .ok (.iadd, 1) := by decide +kernel
theorem bd_82_171 : decode (bn_b 82) 171 = .ok (.iconst 0, 1) := by decide +kernel
theorem bd_82_172 : decode (bn_b 82) 172 = .ok (.iastore, 1) := by decide +kernel
theorem bd_82_173 : decode (bn_b 82) 173 = .ok (.aload_n 0, 1) := by decide +kernel
theorem bd_82_174 : decode (bn_b 82) 174 = .ok (.getfield 7, 3) := by decide +kernel
theorem bd_82_177 : decode (bn_b 82) 177 = .ok (.iload_n 1, 1) := by decide +kernel
theorem bd_82_178 : decode (bn_b 82) 178 = .ok (.iconst 3, 1) := by decide +kernel
theorem bd_82_179 : decode (bn_b 82) 179 = .ok (.iadd, 1) := by decide +kernel
theorem bd_82_180 : decode (bn_b 82) 180 = .ok (.iconst 0, 1) := by decide +kernel
theorem bd_82_181 : decode (bn_b 82) 181 = .ok (.iastore, 1) := by decide +kernel
theorem bd_82_182 : decode (bn_b 82) 182 = .ok (.aload_n 0, 1) := by decide +kernel
theorem bd_82_183 : decode (bn_b 82) 183 = .ok (.dup, 1) := by decide +kernel
theorem bd_82_184 : decode (bn_b 82) 184 = .ok (.getfield 77, 3) := by decide +kernel
theorem bd_82_187 : decode (bn_b 82) 187 = .ok (.iconst 1, 1) := by decide +kernel
theorem bd_82_188 : decode (bn_b 82) 188 = .ok (.iadd, 1) := by decide +kernel
theorem bd_82_189 : decode (bn_b 82) 189 = .ok (.putfield 77, 3) := by decide +kernel
theorem bd_82_192 : decode (bn_b 82) 192 = .ok (.goto (-114), 3) := by decide +kernel
theorem bd_82_195 : decode (bn_b 82) 195 = .ok (.aload_n 0, 1) := by decide +kernel
theorem bd_82_196 : decode (bn_b 82) 196 = .ok (.getfield 16, 3) := by decide +kernel
theorem bd_82_199 : decode (bn_b 82) 199 = .ok (.aload_n 0, 1) := by decide +kernel
theorem bd_82_200 : decode (bn_b 82) 200 = .ok (.getfield 69, 3) := by decide +kernel
theorem bd_82_203 : decode (bn_b 82) 203 = .ok (.iaload, 1) := by decide +kernel
theorem bd_82_204 : decode (bn_b 82) 204 = .ok (.bipush 76, 2) := by decide +kernel
theorem bd_82_206 : decode (bn_b 82) 206 = .ok (.if_icmp .ne 26, 3) := by decide +kernel
theorem bd_82_209 : decode (bn_b 82) 209 = .ok (.aload_n 0, 1) := by decide +kernel
theorem bd_82_210 : decode (bn_b 82) 210 = .ok (.getfield 74, 3) := by decide +kernel
theorem bd_82_213 : decode (bn_b 82) 213 = .ok (.bipush 10, 2) := by decide +kernel
theorem bd_82_215 : decode (bn_b 82) 215 = .ok (.if_icmp .ge 17, 3) := by decide +kernel
theorem bd_82_218 : decode (bn_b 82) 218 = .ok (.aload_n 0, 1) := by decide +kernel
theorem bd_82_219 : decode (bn_b 82) 219 = .ok (.getfield 77, 3) := by decide +kernel
theorem bd_82_222 : decode (bn_b 82) 222 = .ok (.ifCond .le 10, 3) := by decide +kernel
theorem bd_82_225 : decode (bn_b 82) 225 = .ok (.aload_n 0, 1) := by decide +kernel
theorem bd_82_226 : decode (bn_b 82) 226 = .ok (.invokevirtual 93, 3) := by decide +kernel
theorem bd_82_229 : decode (bn_b 82) 229 = .ok (.goto (-151), 3) := by decide +kernel
theorem bd_82_232 : decode (bn_b 82) 232 = .ok (.aload_n 0, 1) := by decide +kernel
theorem bd_82_233 : decode (bn_b 82) 233 = .ok (.aload_n 0, 1) := by decide +kernel
theorem bd_82_234 : decode (bn_b 82) 234 = .ok (.getfield 69, 3) := by decide +kernel
theorem bd_82_237 : decode (bn_b 82) 237 = .ok (.putfield 66, 3) := by decide +kernel
theorem bd_82_240 : decode (bn_b 82) 240 = .ok (.goto (-162), 3) := by decide +kernel
theorem bd_82_243 : decode (bn_b 82) 243 = .ok (.aload_n 0, 1) := by decide +kernel
theorem bd_82_244 : decode (bn_b 82) 244 = .ok (.getfield 66, 3) := by decide +kernel
theorem bd_82_247 : decode (bn_b 82) 247 = .ok (.ireturn, 1) := by decide +kernel
theorem bd_83_0 : decode (bn_b 83) 0 = .ok (.aload_n 0, 1) := by decide +kernel
theorem bd_83_1 : decode (bn_b 83) 1 = .ok (.dup, 1) := by decide +kernel
theorem bd_83_2 : decode (bn_b 83) 2 = .ok (.getfield 69, 3) := by decide +kernel
theorem bd_83_5 : decode (bn_b 83) 5 = .ok (.iconst 1, 1) := by decide +kernel
theorem bd_83_6 : decode (bn_b 83) 6 = .ok (.iadd, 1) := by decide +kernel
theorem bd_83_7 : decode (bn_b 83) 7 = .ok (.putfield 69, 3) := by decide +kernel
theorem bd_83_10 : decode (bn_b 83) 10 = .ok (.iconst 0, 1) := by decide +kernel
theorem bd_83_11 : decode (bn_b 83) 11 = .ok (.istore_n 1, 1) := by decide +kernel
theorem bd_83_12 : decode (bn_b 83) 12 = .ok (.iconst 0, 1) := by decide +kernel
theorem bd_83_13 : decode (bn_b 83) 13 = .ok (.istore_n 2, 1) := by decide +kernel
theorem bd_83_14 : decode (bn_b 83) 14 = .ok (.iload_n 2, 1) := by decide +kernel
theorem bd_83_15 : decode (bn_b 83) 15 = .ok (.bipush 10, 2) := by decide +kernel
theorem bd_83_17 : decode (bn_b 83) 17 = .ok (.if_icmp .ge 27, 3) := by decide +kernel
theorem bd_83_20 : decode (bn_b 83) 20 = .ok (.iload_n 1, 1) := by decide +kernel
theorem bd_83_21 : decode (bn_b 83) 21 = .ok (.aload_n 0, 1) := by decide +kernel
theorem bd_83_22 : decode (bn_b 83) 22 = .ok (.iload_n 2, 1) := by decide +kernel
theorem bd_83_23 : decode (bn_b 83) 23 = .ok (.invokevirtual 96, 3) := by decide +kernel
theorem bd_83_26 : decode (bn_b 83) 26 = .ok (.ifCond .eq 9, 3) := by decide +kernel
theorem bd_83_29 : decode (bn_b 83) 29 = .ok (.iconst 1, 1) := by decide +kernel
theorem bd_83_30 : decode (bn_b 83) 30 = .ok (.iload_n 2, 1) := by decide +kernel
theorem bd_83_31 : decode (bn_b 83) 31 = .ok (.ishl, 1) := by decide +kernel
theorem bd_83_32 : decode (bn_b 83) 32 = .ok (.goto 4, 3) := by decide +kernel
theorem bd_83_35 : decode (bn_b 83) 35 = .ok (.iconst 0, 1) := by decide +kernel
theorem bd_83_36 : decode (bn_b 83) 36 = .ok (.ior, 1) := by decide +kernel
theorem bd_83_37 : decode (bn_b 83) 37 = .ok (.istore_n 1, 1) := by decide +kernel
theorem bd_83_38 : decode (bn_b 83) 38 = .ok (.iinc 2 1, 3) := by decide +kernel
theorem bd_83_41 : decode (bn_b 83) 41 = .ok (.goto (-27), 3) := by decide +kernel
theorem bd_83_44 : decode (bn_b 83) 44 = .ok (.aload_n 0, 1) := by decide +kernel
theorem bd_83_45 : decode (bn_b 83) 45 = .ok (.iload_n 1, 1) := by decide +kernel
theorem bd_83_46 : decode (bn_b 83) 46 = .ok (.invokevirtual 80, 3) := by decide +kernel
theorem bd_83_49 : decode (bn_b 83) 49 = .ok (.istore_n 2, 1) := by decide +kernel
theorem bd_83_50 : decode (bn_b 83) 50 = .ok (.bipush 10, 2) := by decide +kernel
theorem bd_83_52 : decode (bn_b 83) 52 = .ok (.iload_n 2, 1) := by decide +kernel
theorem bd_83_53 : decode (bn_b 83) 53 = .ok (.imul, 1) := by decide +kernel
theorem bd_83_54 : decode (bn_b 83) 54 = .ok (.aload_n 0, 1) := by decide +kernel
theorem bd_83_55 : decode (bn_b 83) 55 = .ok (.aload_n 0, 1) := by decide +kernel
theorem bd_83_56 : decode (bn_b 83) 56 = .ok (.iload_n 2, 1) := by decide +kernel
theorem bd_83_57 : decode (bn_b 83) 57 = .ok (.invokevirtual 96, 3) := by decide +kernel
theorem bd_83_60 : decode (bn_b 83) 60 = .ok (.invokevirtual 80, 3) := by decide +kernel
theorem bd_83_63 : decode (bn_b 83) 63 = .ok (.iadd, 1) := by decide +kernel
theorem bd_83_64 : decode (bn_b 83) 64 = .ok (.istore_n 3, 1) := by decide +kernel
theorem bd_83_65 : decode (bn_b 83) 65 = .ok (.aload_n 0, 1) := by decide +kernel
theorem bd_83_66 : decode (bn_b 83) 66 = .ok (.iconst 1, 1) := by decide +kernel
theorem bd_83_67 : decode (bn_b 83) 67 = .ok (.aload_n 0, 1) := by decide +kernel
theorem bd_83_68 : decode (bn_b 83) 68 = .ok (.getfield 77, 3) := by decide +kernel
theorem bd_83_71 : decode (bn_b 83) 71 = .ok (.ishl, 1) := by decide +kernel
theorem bd_83_72 : decode (bn_b 83) 72 = .ok (.iconst 1, 1) := by decide +kernel
theorem bd_83_73 : decode (bn_b 83) 73 = .ok (.isub, 1) := by decide +kernel
theorem bd_83_74 : decode (bn_b 83) 74 = .ok (.invokevirtual 80, 3) := by decide +kernel
theorem bd_83_77 : decode (bn_b 83) 77 = .ok (.istore 4, 2) := by decide +kernel
theorem bd_83_79 : decode (bn_b 83) 79 = .ok (.bipush 20, 2) := by decide +kernel
theorem bd_83_81 : decode (bn_b 83) 81 = .ok (.iconst 5, 1) := by decide +kernel
theorem bd_83_82 : decode (bn_b 83) 82 = .ok (.aload_n 0, 1) := by decide +kernel
theorem bd_83_83 : decode (bn_b 83) 83 = .ok (.getfield 74, 3) := by decide +kernel
theorem bd_83_86 : decode (bn_b 83) 86 = .ok (.imul, 1) := by decide +kernel
theorem bd_83_87 : decode (bn_b 83) 87 = .ok (.iadd, 1) := by decide +kernel
theorem bd_83_88 : decode (bn_b 83) 88 = .ok (.istore 5, 2) := by decide +kernel
theorem bd_83_90 : decode (bn_b 83) 90 = .ok (.aload_n 0, 1) := by decide +kernel
theorem bd_83_91 : decode (bn_b 83) 91 = .ok (.getfield 7, 3) := by decide +kernel
theorem bd_83_94 : decode (bn_b 83) 94 = .ok (.iload 5, 2) := by decide +kernel
theorem bd_83_96 : decode (bn_b 83) 96 = .ok (.iload_n 3, 1) := by decide +kernel
theorem bd_83_97 : decode (bn_b 83) 97 = .ok (.iastore, 1) := by decide +kernel
theorem bd_83_98 : decode (bn_b 83) 98 = .ok (.aload_n 0, 1) := by decide +kernel
theorem bd_83_99 : decode (bn_b 83) 99 = .ok (.getfield 7, 3) := by decide +kernel
theorem bd_83_102 : decode (bn_b 83) 102 = .ok (.iload 5, 2) := by decide +kernel
theorem bd_83_104 : decode (bn_b 83) 104 = .ok (.iconst 1, 1) := by decide +kernel
theorem bd_83_105 : decode (bn_b 83) 105 = .ok (.iadd, 1) := by decide +kernel
theorem bd_83_106 : decode (bn_b 83) 106 = .ok (.iload 4, 2) := by decide +kernel
theorem bd_83_108 : decode (bn_b 83) 108 = .ok (.iastore, 1) := by decide +kernel
theorem bd_83_109 : decode (bn_b 83) 109 = .ok (.aload_n 0, 1) := by decide +kernel
theorem bd_83_110 : decode (bn_b 83) 110 = .ok (.getfield 7, 3) := by decide +kernel
theorem bd_83_113 : decode (bn_b 83) 113 = .ok (.iload 5, 2) := by decide +kernel
theorem bd_83_115 : decode (bn_b 83) 115 = .ok (.iconst 2, 1) := by decide +kernel
theorem bd_83_116 : decode (bn_b 83) 116 = .ok (.iadd, 1) := by decide +kernel
theorem bd_83_117 : decode (bn_b 83) 117 = .ok (.aload_n 0, 1) := by decide +kernel
theorem bd_83_118 : decode (bn_b 83) 118 = .ok (.sipush 1023, 3) := by decide +kernel
theorem bd_83_121 : decode (bn_b 83) 121 = .ok (.invokevirtual 80, 3) := by decide +kernel
theorem bd_83_124 : decode (bn_b 83) 124 = .ok (.iastore, 1) := by decide +kernel
theorem bd_83_125 : decode (bn_b 83) 125 = .ok (.aload_n 0, 1) := by decide +kernel
theorem bd_83_126 : decode (bn_b 83) 126 = .ok (.getfield 7, 3) := by decide +kernel
theorem bd_83_129 : decode (bn_b 83) 129 = .ok (.iload 5, 2) := by decide +kernel
theorem bd_83_131 : decode (bn_b 83) 131 = .ok (.iconst 3, 1) := by decide +kernel
theorem bd_83_132 : decode (bn_b 83) 132 = .ok (.iadd, 1) := by decide +kernel
theorem bd_83_133 : decode (bn_b 83) 133 = .ok (.bipush (-9), 2) := by decide +kernel
theorem bd_83_135 : decode (bn_b 83) 135 = .ok (.iastore, 1) := by decide +kernel
theorem bd_83_136 : decode (bn_b 83) 136 = .ok (.aload_n 0, 1) := by decide +kernel
theorem bd_83_137 : decode (bn_b 83) 137 = .ok (.getfield 7, 3) := by decide +kernel
theorem bd_83_140 : decode (bn_b 83) 140 = .ok (.iload 5, 2) := by decide +kernel
theorem bd_83_142 : decode (bn_b 83) 142 = .ok (.iconst 4, 1) := by decide +kernel
theorem bd_83_143 : decode (bn_b 83) 143 = .ok (.iadd, 1) := by decide +kernel
theorem bd_83_144 : decode (bn_b 83) 144 = .ok (.bipush (-9), 2) := by decide +kernel
theorem bd_83_146 : decode (bn_b 83) 146 = .ok (.iastore, 1) := by decide +kernel
theorem bd_83_147 : decode (bn_b 83) 147 = .ok (.aload_n 0, 1) := by decide +kernel
theorem bd_83_148 : decode (bn_b 83) 148 = .ok (.dup, 1) := by decide +kernel
theorem bd_83_149 : decode (bn_b 83) 149 = .ok (.getfield 74, 3) := by decide +kernel
theorem bd_83_152 : decode (bn_b 83) 152 = .ok (.iconst 1, 1) := by decide +kernel
theorem bd_83_153 : decode (bn_b 83) 153 = .ok (.iadd, 1) := by decide +kernel
theorem bd_83_154 : decode (bn_b 83) 154 = .ok (.putfield 74, 3) := by decide +kernel
theorem bd_83_157 : decode (bn_b 83) 157 = .ok (.return_, 1) := by decide +kernel
theorem bd_84_0 : decode (bn_b 84) 0 = .ok (.aload_n 0, 1) := by decide +kernel
theorem bd_84_1 : decode (bn_b 84) 1 = .ok (.invokevirtual 99, 3) := by decide +kernel
theorem bd_84_4 : decode (bn_b 84) 4 = .ok (.ireturn, 1) := by decide +kernel
theorem bd_85_0 : decode (bn_b 85) 0 = .ok (.aload_n 0, 1) := by decide +kernel
theorem bd_85_1 : decode (bn_b 85) 1 = .ok (.invokevirtual 99, 3) := by decide +kernel
theorem bd_85_4 : decode (bn_b 85) 4 = .ok (.bipush (-9), 2) := by decide +kernel
theorem bd_85_6 : decode (bn_b 85) 6 = .ok (.if_icmp .eq 6, 3) := by decide +kernel
theorem bd_85_9 : decode (bn_b 85) 9 = .ok (.bipush (-3), 2) := by decide +kernel
theorem bd_85_11 : decode (bn_b 85) 11 = .ok (.ireturn, 1) := by decide +kernel
theorem bd_85_12 : decode (bn_b 85) 12 = .ok (.iconst 0, 1) := by decide +kernel
theorem bd_85_13 : decode (bn_b 85) 13 = .ok (.istore_n 1, 1) := by decide +kernel
theorem bd_85_14 : decode (bn_b 85) 14 = .ok (.iload_n 1, 1) := by decide +kernel
theorem bd_85_15 : decode (bn_b 85) 15 = .ok (.bipush 70, 2) := by decide +kernel
theorem bd_85_17 : decode (bn_b 85) 17 = .ok (.if_icmp .ge 21, 3) := by decide +kernel
theorem bd_85_20 : decode (bn_b 85) 20 = .ok (.aload_n 0, 1) := by decide +kernel
theorem bd_85_21 : decode (bn_b 85) 21 = .ok (.getfield 13, 3) := by decide +kernel
theorem bd_85_24 : decode (bn_b 85) 24 = .ok (.iload_n 1, 1) := by decide +kernel
theorem bd_85_25 : decode (bn_b 85) 25 = .ok (.aload_n 0, 1) := by decide +kernel
theorem bd_85_26 : decode (bn_b 85) 26 = .ok (.getfield 7, 3) := by decide +kernel
theorem bd_85_29 : decode (bn_b 85) 29 = .ok (.iload_n 1, 1) := by decide +kernel
theorem bd_85_30 : decode (bn_b 85) 30 = .ok (.iaload, 1) := by decide +kernel
theorem bd_85_31 : decode (bn_b 85) 31 = .ok (.iastore, 1) := by decide +kernel
theorem bd_85_32 : decode (bn_b 85) 32 = .ok (.iinc 1 1, 3) := by decide +kernel
theorem bd_85_35 : decode (bn_b 85) 35 = .ok (.goto (-21), 3) := by decide +kernel
theorem bd_85_38 : decode (bn_b 85) 38 = .ok (.aload_n 0, 1) := by decide +kernel
theorem bd_85_39 : decode (bn_b 85) 39 = .ok (.getfield 13, 3) := by decide +kernel
theorem bd_85_42 : decode (bn_b 85) 42 = .ok (.bipush 70, 2) := by decide +kernel
theorem bd_85_44 : decode (bn_b 85) 44 = .ok (.iconst 0, 1) := by decide +kernel
theorem bd_85_45 : decode (bn_b 85) 45 = .ok (.iastore, 1) := by decide +kernel
theorem bd_85_46 : decode (bn_b 85) 46 = .ok (.aload_n 0, 1) := by decide +kernel
theorem bd_85_47 : decode (bn_b 85) 47 = .ok (.aload_n 0, 1) := by decide +kernel
theorem bd_85_48 : decode (bn_b 85) 48 = .ok (.getfield 84, 3) := by decide +kernel
theorem bd_85_51 : decode (bn_b 85) 51 = .ok (.putfield 103, 3) := by decide +kernel
theorem bd_85_54 : decode (bn_b 85) 54 = .ok (.aload_n 0, 1) := by decide +kernel
theorem bd_85_55 : decode (bn_b 85) 55 = .ok (.aload_n 0, 1) := by decide +kernel
theorem bd_85_56 : decode (bn_b 85) 56 = .ok (.getfield 87, 3) := by decide +kernel
theorem bd_85_59 : decode (bn_b 85) 59 = .ok (.putfield 48, 3) := by decide +kernel
theorem bd_85_62 : decode (bn_b 85) 62 = .ok (.aload_n 0, 1) := by decide +kernel
theorem bd_85_63 : decode (bn_b 85) 63 = .ok (.aload_n 0, 1) := by decide +kernel
theorem bd_85_64 : decode (bn_b 85) 64 = .ok (.getfield 90, 3) := by decide +kernel
theorem bd_85_67 : decode (bn_b 85) 67 = .ok (.putfield 52, 3) := by decide +kernel
theorem bd_85_70 : decode (bn_b 85) 70 = .ok (.aload_n 0, 1) := by decide +kernel
theorem bd_85_71 : decode (bn_b 85) 71 = .ok (.aload_n 0, 1) := by decide +kernel
theorem bd_85_72 : decode (bn_b 85) 72 = .ok (.getfield 77, 3) := by decide +kernel
theorem bd_85_75 : decode (bn_b 85) 75 = .ok (.putfield 106, 3) := by decide +kernel
theorem bd_85_78 : decode (bn_b 85) 78 = .ok (.aload_n 0, 1) := by decide +kernel
theorem bd_85_79 : decode (bn_b 85) 79 = .ok (.aload_n 0, 1) := by decide +kernel
theorem bd_85_80 : decode (bn_b 85) 80 = .ok (.getfield 74, 3) := by decide +kernel
theorem bd_85_83 : decode (bn_b 85) 83 = .ok (.putfield 109, 3) := by decide +kernel
theorem bd_85_86 : decode (bn_b 85) 86 = .ok (.aload_n 0, 1) := by decide +kernel
theorem bd_85_87 : decode (bn_b 85) 87 = .ok (.iconst 0, 1) := by decide +kernel
theorem bd_85_88 : decode (bn_b 85) 88 = .ok (.putfield 112, 3) := by decide +kernel
theorem bd_85_91 : decode (bn_b 85) 91 = .ok (.aload_n 0, 1) := by decide +kernel
theorem bd_85_92 : decode (bn_b 85) 92 = .ok (.getfield 39, 3) := by decide +kernel
theorem bd_85_95 : decode (bn_b 85) 95 = .ok (.iconst 0, 1) := by decide +kernel
theorem bd_85_96 : decode (bn_b 85) 96 = .ok (.iconst 0, 1) := by decide +kernel
theorem bd_85_97 : decode (bn_b 85) 97 = .ok (.bastore, 1) := by decide +kernel
theorem bd_85_98 : decode (bn_b 85) 98 = .ok (.aload_n 0, 1) := by decide +kernel
theorem bd_85_99 : decode (bn_b 85) 99 = .ok (.getfield 39, 3) := by decide +kernel
theorem bd_85_102 : decode (bn_b 85) 102 = .ok (.iconst 1, 1) := by decide +kernel
theorem bd_85_103 : decode (bn_b 85) 103 = .ok (.iconst 0, 1) := by decide +kernel
theorem bd_85_104 : decode (bn_b 85) 104 = .ok (.bastore, 1) := by decide +kernel
theorem bd_85_105 : decode (bn_b 85) 105 = .ok (.bipush 100, 2) := by decide +kernel
theorem bd_85_107 : decode (bn_b 85) 107 = .ok (.aload_n 0, 1) := by decide +kernel
theorem bd_85_108 : decode (bn_b 85) 108 = .ok (.getfield 106, 3) := by decide +kernel
theorem bd_85_111 : decode (bn_b 85) 111 = .ok (.imul, 1) := by decide +kernel
theorem bd_85_112 : decode (bn_b 85) 112 = .ok (.aload_n 0, 1) := by decide +kernel
theorem bd_85_113 : decode (bn_b 85) 113 = .ok (.getfield 109, 3) := by decide +kernel
theorem bd_85_116 : decode (bn_b 85) 116 = .ok (.iadd, 1) := by decide +kernel
theorem bd_85_117 : decode (bn_b 85) 117 = .ok (.ireturn, 1) := by decide +kernel
theorem bd_86_0 : decode (bn_b 86) 0 = .ok (.iload_n 1, 1) := by decide +kernel
theorem bd_86_1 : decode (bn_b 86) 1 = .ok (.i2l, 1) := by decide +kernel
theorem bd_86_2 : decode (bn_b 86) 2 = .ok (.lconst 0, 1) := by decide +kernel
theorem bd_86_3 : decode (bn_b 86) 3 = .ok (.aload_n 0, 1) := by decide +kernel
theorem bd_86_4 : decode (bn_b 86) 4 = .ok (.getfield 106, 3) := by decide +kernel
theorem bd_86_7 : decode (bn_b 86) 7 = .ok (.iconst 1, 1) := by decide +kernel
theorem bd_86_8 : decode (bn_b 86) 8 = .ok (.isub, 1) := by decide +kernel
theorem bd_86_9 : decode (bn_b 86) 9 = .ok (.i2l, 1) := by decide +kernel
theorem bd_86_10 : decode (bn_b 86) 10 = .ok (.invokestatic 57, 3) := by decide +kernel
theorem bd_86_13 : decode (bn_b 86) 13 = .ok (.ireturn, 1) := by decide +kernel
theorem bd_87_0 : decode (bn_b 87) 0 = .ok (.iload_n 1, 1) := by decide +kernel
theorem bd_87_1 : decode (bn_b 87) 1 = .ok (.i2l, 1) := by decide +kernel
theorem bd_87_2 : decode (bn_b 87) 2 = .ok (.lconst 0, 1) := by decide +kernel
theorem bd_87_3 : decode (bn_b 87) 3 = .ok (.aload_n 0, 1) := by decide +kernel
theorem bd_87_4 : decode (bn_b 87) 4 = .ok (.getfield 109, 3) := by decide +kernel
theorem bd_87_7 : decode (bn_b 87) 7 = .ok (.iconst 1, 1) := by decide +kernel
theorem bd_87_8 : decode (bn_b 87) 8 = .ok (.isub, 1) := by decide +kernel
theorem bd_87_9 : decode (bn_b 87) 9 = .ok (.i2l, 1) := by decide +kernel
theorem bd_87_10 : decode (bn_b 87) 10 = .ok (.invokestatic 57, 3) := by decide +kernel
theorem bd_87_13 : decode (bn_b 87) 13 = .ok (.ireturn, 1) := by decide +kernel
theorem bd_88_0 : decode (bn_b 88) 0 = .ok (.aload_n 0, 1) := by decide +kernel
theorem bd_88_1 : decode (bn_b 88) 1 = .ok (.getfield 13, 3) := by decide +kernel
theorem bd_88_4 : decode (bn_b 88) 4 = .ok (.bipush 20, 2) := by decide +kernel
theorem bd_88_6 : decode (bn_b 88) 6 = .ok (.iconst 5, 1) := by decide +kernel
theorem bd_88_7 : decode (bn_b 88) 7 = .ok (.iload_n 1, 1) := by decide +kernel
theorem bd_88_8 : decode (bn_b 88) 8 = .ok (.imul, 1) := by decide +kernel
theorem bd_88_9 : decode (bn_b 88) 9 = .ok (.iadd, 1) := by decide +kernel
theorem bd_88_10 : decode (bn_b 88) 10 = .ok (.iaload, 1) := by decide +kernel
theorem bd_88_11 : decode (bn_b 88) 11 = .ok (.ireturn, 1) := by decide +kernel
theorem bd_89_0 : decode (bn_b 89) 0 = .ok (.aload_n 0, 1) := by decide +kernel
theorem bd_89_1 : decode (bn_b 89) 1 = .ok (.getfield 13, 3) := by decide +kernel
theorem bd_89_4 : decode (bn_b 89) 4 = .ok (.bipush 21, 2) := by decide +kernel
theorem bd_89_6 : decode (bn_b 89) 6 = .ok (.iconst 5, 1) := by decide +kernel
theorem bd_89_7 : decode (bn_b 89) 7 = .ok (.iload_n 1, 1) := by decide +kernel
theorem bd_89_8 : decode (bn_b 89) 8 = .ok (.imul, 1) := by decide +kernel
theorem bd_89_9 : decode (bn_b 89) 9 = .ok (.iadd, 1) := by decide +kernel
theorem bd_89_10 : decode (bn_b 89) 10 = .ok (.iaload, 1) := by decide +kernel
theorem bd_89_11 : decode (bn_b 89) 11 = .ok (.ireturn, 1) := by decide +kernel
theorem bd_90_0 : decode (bn_b 90) 0 = .ok (.aload_n 0, 1) := by decide +kernel
theorem bd_90_1 : decode (bn_b 90) 1 = .ok (.getfield 13, 3) := by decide +kernel
theorem bd_90_4 : decode (bn_b 90) 4 = .ok (.bipush 22, 2) := by decide +kernel
theorem bd_90_6 : decode (bn_b 90) 6 = .ok (.iconst 5, 1) := by decide +kernel
theorem bd_90_7 : decode (bn_b 90) 7 = .ok (.iload_n 1, 1) := by decide +kernel
theorem bd_90_8 : decode (bn_b 90) 8 = .ok (.imul, 1) := by decide +kernel
theorem bd_90_9 : decode (bn_b 90) 9 = .ok (.iadd, 1) := by decide +kernel
theorem bd_90_10 : decode (bn_b 90) 10 = .ok (.iaload, 1) := by decide +kernel
theorem bd_90_11 : decode (bn_b 90) 11 = .ok (.aload_n 0, 1) := by decide +kernel
theorem bd_90_12 : decode (bn_b 90) 12 = .ok (.getfield 52, 3) := by decide +kernel
theorem bd_90_15 : decode (bn_b 90) 15 = .ok (.if_icmp .lt 7, 3) := by decide +kernel
theorem bd_90_18 : decode (bn_b 90) 18 = .ok (.iconst 1, 1) := by decide +kernel
theorem bd_90_19 : decode (bn_b 90) 19 = .ok (.goto 4, 3) := by decide +kernel
theorem bd_90_22 : decode (bn_b 90) 22 = .ok (.iconst 0, 1) := by decide +kernel
theorem bd_90_23 : decode (bn_b 90) 23 = .ok (.ireturn, 1) := by decide +kernel
theorem bd_91_0 : decode (bn_b 91) 0 = .ok (.iconst 0, 1) := by decide +kernel
theorem bd_91_1 : decode (bn_b 91) 1 = .ok (.istore_n 2, 1) := by decide +kernel
theorem bd_91_2 : decode (bn_b 91) 2 = .ok (.iconst 0, 1) := by decide +kernel
theorem bd_91_3 : decode (bn_b 91) 3 = .ok (.istore_n 3, 1) := by decide +kernel
theorem bd_91_4 : decode (bn_b 91) 4 = .ok (.iload_n 3, 1) := by decide +kernel
theorem bd_91_5 : decode (bn_b 91) 5 = .ok (.aload_n 0, 1) := by decide +kernel
theorem bd_91_6 : decode (bn_b 91) 6 = .ok (.getfield 109, 3) := by decide +kernel
theorem bd_91_9 : decode (bn_b 91) 9 = .ok (.if_icmp .ge 28, 3) := by decide +kernel
theorem bd_91_12 : decode (bn_b 91) 12 = .ok (.iload_n 2, 1) := by decide +kernel
theorem bd_91_13 : decode (bn_b 91) 13 = .ok (.aload_n 0, 1) := by decide +kernel
theorem bd_91_14 : decode (bn_b 91) 14 = .ok (.iload_n 3, 1) := by decide +kernel
theorem bd_91_15 : decode (bn_b 91) 15 = .ok (.invokevirtual 115, 3) := by decide +kernel
theorem bd_91_18 : decode (bn_b 91) 18 = .ok (.iload_n 1, 1) := by decide +kernel
theorem bd_91_19 : decode (bn_b 91) 19 = .ok (.if_icmp .ne 9, 3) := by decide +kernel
theorem bd_91_22 : decode (bn_b 91) 22 = .ok (.iconst 1, 1) := by decide +kernel
theorem bd_91_23 : decode (bn_b 91) 23 = .ok (.iload_n 3, 1) := by decide +kernel
theorem bd_91_24 : decode (bn_b 91) 24 = .ok (.ishl, 1) := by decide +kernel
theorem bd_91_25 : decode (bn_b 91) 25 = .ok (.goto 4, 3) := by decide +kernel
theorem bd_91_28 : decode (bn_b 91) 28 = .ok (.iconst 0, 1) := by decide +kernel
theorem bd_91_29 : decode (bn_b 91) 29 = .ok (.ior, 1) := by decide +kernel
theorem bd_91_30 : decode (bn_b 91) 30 = .ok (.istore_n 2, 1) := by decide +kernel
theorem bd_91_31 : decode (bn_b 91) 31 = .ok (.iinc 3 1, 3) := by decide +kernel
theorem bd_91_34 : decode (bn_b 91) 34 = .ok (.goto (-30), 3) := by decide +kernel
theorem bd_91_37 : decode (bn_b 91) 37 = .ok (.iload_n 2, 1) := by decide +kernel
theorem bd_91_38 : decode (bn_b 91) 38 = .ok (.ireturn, 1) := by decide +kernel
theorem bd_92_0 : decode (bn_b 92) 0 = .ok (.aload_n 0, 1) := by decide +kernel
theorem bd_92_1 : decode (bn_b 92) 1 = .ok (.iload_n 1, 1) := by decide +kernel
theorem bd_92_2 : decode (bn_b 92) 2 = .ok (.invokevirtual 118, 3) := by decide +kernel
theorem bd_92_5 : decode (bn_b 92) 5 = .ok (.ifCond .ne 5, 3) := by decide +kernel
theorem bd_92_8 : decode (bn_b 92) 8 = .ok (.iconst (-1), 1) := by decide +kernel
theorem bd_92_9 : decode (bn_b 92) 9 = .ok (.ireturn, 1) := by decide +kernel
theorem bd_92_10 : decode (bn_b 92) 10 = .ok (.iload_n 2, 1) := by decide +kernel
theorem bd_92_11 : decode (bn_b 92) 11 = .ok (.tableswitch 61 0 4 #[33, 33, 33, 44, 50], 33) := by decide +kernel
theorem bd_92_44 : decode (bn_b 92) 44 = .ok (.aload_n 0, 1) := by decide +kernel
theorem bd_92_45 : decode (bn_b 92) 45 = .ok (.getfield 13, 3) := by decide +kernel
theorem bd_92_48 : decode (bn_b 92) 48 = .ok (.iconst 4, 1) := by decide +kernel
theorem bd_92_49 : decode (bn_b 92) 49 = .ok (.iload_n 1, 1) := by decide +kernel
theorem bd_92_50 : decode (bn_b 92) 50 = .ok (.imul, 1) := by decide +kernel
theorem bd_92_51 : decode (bn_b 92) 51 = .ok (.iload_n 2, 1) := by decide +kernel
theorem bd_92_52 : decode (bn_b 92) 52 = .ok (.iadd, 1) := by decide +kernel
theorem bd_92_53 : decode (bn_b 92) 53 = .ok (.iaload, 1) := by decide +kernel
theorem bd_92_54 : decode (bn_b 92) 54 = .ok (.ireturn, 1) := by decide +kernel
theorem bd_92_55 : decode (bn_b 92) 55 = .ok (.aload_n 0, 1) := by decide +kernel
theorem bd_92_56 : decode (bn_b 92) 56 = .ok (.iload_n 1, 1) := by decide +kernel
theorem bd_92_57 : decode (bn_b 92) 57 = .ok (.invokevirtual 122, 3) := by decide +kernel
theorem bd_92_60 : decode (bn_b 92) 60 = .ok (.ireturn, 1) := by decide +kernel
theorem bd_92_61 : decode (bn_b 92) 61 = .ok (.aload_n 0, 1) := by decide +kernel
theorem bd_92_62 : decode (bn_b 92) 62 = .ok (.getfield 13, 3) := by decide +kernel
theorem bd_92_65 : decode (bn_b 92) 65 = .ok (.iconst 4, 1) := by decide +kernel
theorem bd_92_66 : decode (bn_b 92) 66 = .ok (.iload_n 1, 1) := by decide +kernel
theorem bd_92_67 : decode (bn_b 92) 67 = .ok (.imul, 1) := by decide +kernel
theorem bd_92_68 : decode (bn_b 92) 68 = .ok (.iconst 3, 1) := by decide +kernel
theorem bd_92_69 : decode (bn_b 92) 69 = .ok (.iadd, 1) := by decide +kernel
theorem bd_92_70 : decode (bn_b 92) 70 = .ok (.iaload, 1) := by decide +kernel
theorem bd_92_71 : decode (bn_b 92) 71 = .ok (.ireturn, 1) := by decide +kernel
theorem bd_92_72 : decode (bn_b 92) 72 = .ok (.bipush (-2), 2) := by decide +kernel
theorem bd_92_74 : decode (bn_b 92) 74 = .ok (.ireturn, 1) := by decide +kernel
theorem bd_93_0 : decode (bn_b 93) 0 = .ok (.aload_n 0, 1) := by decide +kernel
theorem bd_93_1 : decode (bn_b 93) 1 = .ok (.iload_n 1, 1) := by decide +kernel
theorem bd_93_2 : decode (bn_b 93) 2 = .ok (.invokevirtual 125, 3) := by decide +kernel
theorem bd_93_5 : decode (bn_b 93) 5 = .ok (.ifCond .ne 5, 3) := by decide +kernel
theorem bd_93_8 : decode (bn_b 93) 8 = .ok (.iconst (-1), 1) := by decide +kernel
theorem bd_93_9 : decode (bn_b 93) 9 = .ok (.ireturn, 1) := by decide +kernel
theorem bd_93_10 : decode (bn_b 93) 10 = .ok (.iload_n 2, 1) := by decide +kernel
theorem bd_93_11 : decode (bn_b 93) 11 = .ok (.tableswitch 79 0 5 #[37, 37, 37, 51, 65, 65], 37) := by decide +kernel
theorem bd_93_48 : decode (bn_b 93) 48 = .ok (.aload_n 0, 1) := by decide +kernel
theorem bd_93_49 : decode (bn_b 93) 49 = .ok (.getfield 13, 3) := by decide +kernel
theorem bd_93_52 : decode (bn_b 93) 52 = .ok (.bipush 20, 2) := by decide +kernel
theorem bd_93_54 : decode (bn_b 93) 54 = .ok (.iconst 5, 1) := by decide +kernel
theorem bd_93_55 : decode (bn_b 93) 55 = .ok (.iload_n 1, 1) := by decide +kernel
theorem bd_93_56 : decode (bn_b 93) 56 = .ok (.imul, 1) := by decide +kernel
theorem bd_93_57 : decode (bn_b 93) 57 = .ok (.iadd, 1) := by decide +kernel
theorem bd_93_58 : decode (bn_b 93) 58 = .ok (.iload_n 2, 1) := by decide +kernel
theorem bd_93_59 : decode (bn_b 93) 59 = .ok (.iadd, 1) := by decide +kernel
theorem bd_93_60 : decode (bn_b 93) 60 = .ok (.iaload, 1) := by decide +kernel
theorem bd_93_61 : decode (bn_b 93) 61 = .ok (.ireturn, 1) := by decide +kernel
theorem bd_93_62 : decode (bn_b 93) 62 = .ok (.aload_n 0, 1) := by decide +kernel
theorem bd_93_63 : decode (bn_b 93) 63 = .ok (.iload_n 1, 1) := by decide +kernel
theorem bd_93_64 : decode (bn_b 93) 64 = .ok (.invokevirtual 128, 3) := by decide +kernel
theorem bd_93_67 : decode (bn_b 93) 67 = .ok (.ifCond .eq 7, 3) := by decide +kernel
theorem bd_93_70 : decode (bn_b 93) 70 = .ok (.iconst 1, 1) := by decide +kernel
theorem bd_93_71 : decode (bn_b 93) 71 = .ok (.goto 4, 3) := by decide +kernel
theorem bd_93_74 : decode (bn_b 93) 74 = .ok (.iconst 0, 1) := by decide +kernel
theorem bd_93_75 : decode (bn_b 93) 75 = .ok (.ireturn, 1) := by decide +kernel
theorem bd_93_76 : decode (bn_b 93) 76 = .ok (.aload_n 0, 1) := by decide +kernel
theorem bd_93_77 : decode (bn_b 93) 77 = .ok (.getfield 13, 3) := by decide +kernel
theorem bd_93_80 : decode (bn_b 93) 80 = .ok (.bipush 19, 2) := by decide +kernel
theorem bd_93_82 : decode (bn_b 93) 82 = .ok (.iconst 5, 1) := by decide +kernel
theorem bd_93_83 : decode (bn_b 93) 83 = .ok (.iload_n 1, 1) := by decide +kernel
theorem bd_93_84 : decode (bn_b 93) 84 = .ok (.imul, 1) := by decide +kernel
theorem bd_93_85 : decode (bn_b 93) 85 = .ok (.iadd, 1) := by decide +kernel
theorem bd_93_86 : decode (bn_b 93) 86 = .ok (.iload_n 2, 1) := by decide +kernel
theorem bd_93_87 : decode (bn_b 93) 87 = .ok (.iadd, 1) := by decide +kernel
theorem bd_93_88 : decode (bn_b 93) 88 = .ok (.iaload, 1) := by decide +kernel
theorem bd_93_89 : decode (bn_b 93) 89 = .ok (.ireturn, 1) := by decide +kernel
theorem bd_93_90 : decode (bn_b 93) 90 = .ok (.bipush (-2), 2) := by decide +kernel
theorem bd_93_92 : decode (bn_b 93) 92 = .ok (.ireturn, 1) := by decide +kernel
theorem bd_94_0 : decode (bn_b 94) 0 = .ok (.iconst 0, 1) := by decide +kernel
theorem bd_94_1 : decode (bn_b 94) 1 = .ok (.istore_n 1, 1) := by decide +kernel
theorem bd_94_2 : decode (bn_b 94) 2 = .ok (.iload_n 1, 1) := by decide +kernel
theorem bd_94_3 : decode (bn_b 94) 3 = .ok (.bipush 71, 2) := by decide +kernel
theorem bd_94_5 : decode (bn_b 94) 5 = .ok (.if_icmp .ge 29, 3) := by decide +kernel
theorem bd_94_8 : decode (bn_b 94) 8 = .ok (.aload_n 0, 1) := by decide +kernel
theorem bd_94_9 : decode (bn_b 94) 9 = .ok (.getfield 19, 3) := by decide +kernel
theorem bd_94_12 : decode (bn_b 94) 12 = .ok (.bipush 72, 2) := by decide +kernel
theorem bd_94_14 : decode (bn_b 94) 14 = .ok (.aload_n 0, 1) := by decide +kernel
theorem bd_94_15 : decode (bn_b 94) 15 = .ok (.getfield 131, 3) := by decide +kernel
theorem bd_94_18 : decode (bn_b 94) 18 = .ok (.imul, 1) := by decide +kernel
theorem bd_94_19 : decode (bn_b 94) 19 = .ok (.iload_n 1, 1) := by decide +kernel
theorem bd_94_20 : decode (bn_b 94) 20 = .ok (.iadd, 1) := by decide +kernel
theorem bd_94_21 : decode (bn_b 94) 21 = .ok (.aload_n 0, 1) := by decide +kernel
theorem bd_94_22 : decode (bn_b 94) 22 = .ok (.getfield 13, 3) := by decide +kernel
theorem bd_94_25 : decode (bn_b 94) 25 = .ok (.iload_n 1, 1) := by decide +kernel
theorem bd_94_26 : decode (bn_b 94) 26 = .ok (.iaload, 1) := by decide +kernel
theorem bd_94_27 : decode (bn_b 94) 27 = .ok (.iastore, 1) := by decide +kernel
theorem bd_94_28 : decode (bn_b 94) 28 = .ok (.iinc 1 1, 3) := by decide +kernel
theorem bd_94_31 : decode (bn_b 94) 31 = .ok (.goto (-29), 3) := by decide +kernel
theorem bd_94_34 : decode (bn_b 94) 34 = .ok (.aload_n 0, 1) := by decide +kernel
theorem bd_94_35 : decode (bn_b 94) 35 = .ok (.getfield 22, 3) := by decide +kernel
theorem bd_94_38 : decode (bn_b 94) 38 = .ok (.aload_n 0, 1) := by decide +kernel
theorem bd_94_39 : decode (bn_b 94) 39 = .ok (.getfield 131, 3) := by decide +kernel
theorem bd_94_42 : decode (bn_b 94) 42 = .ok (.aload_n 0, 1) := by decide +kernel
theorem bd_94_43 : decode (bn_b 94) 43 = .ok (.getfield 134, 3) := by decide +kernel
theorem bd_94_46 : decode (bn_b 94) 46 = .ok (.lastore, 1) := by decide +kernel
theorem bd_94_47 : decode (bn_b 94) 47 = .ok (.aload_n 0, 1) := by decide +kernel
theorem bd_94_48 : decode (bn_b 94) 48 = .ok (.aload_n 0, 1) := by decide +kernel
theorem bd_94_49 : decode (bn_b 94) 49 = .ok (.getfield 131, 3) := by decide +kernel
theorem bd_94_52 : decode (bn_b 94) 52 = .ok (.iconst 1, 1) := by decide +kernel
theorem bd_94_53 : decode (bn_b 94) 53 = .ok (.iadd, 1) := by decide +kernel
theorem bd_94_54 : decode (bn_b 94) 54 = .ok (.bipush 20, 2) := by decide +kernel
theorem bd_94_56 : decode (bn_b 94) 56 = .ok (.irem, 1) := by decide +kernel
theorem bd_94_57 : decode (bn_b 94) 57 = .ok (.putfield 131, 3) := by decide +kernel
theorem bd_94_60 : decode (bn_b 94) 60 = .ok (.aload_n 0, 1) := by decide +kernel
theorem bd_94_61 : decode (bn_b 94) 61 = .ok (.aload_n 0, 1) := by decide +kernel
theorem bd_94_62 : decode (bn_b 94) 62 = .ok (.getfield 112, 3) := by decide +kernel
theorem bd_94_65 : decode (bn_b 94) 65 = .ok (.bipush 20, 2) := by decide +kernel
theorem bd_94_67 : decode (bn_b 94) 67 = .ok (.if_icmp .ge 12, 3) := by decide +kernel
theorem bd_94_70 : decode (bn_b 94) 70 = .ok (.aload_n 0, 1) := by decide +kernel
theorem bd_94_71 : decode (bn_b 94) 71 = .ok (.getfield 112, 3) := by decide +kernel
theorem bd_94_74 : decode (bn_b 94) 74 = .ok (.iconst 1, 1) := by decide +kernel
theorem bd_94_75 : decode (bn_b 94) 75 = .ok (.iadd, 1) := by decide +kernel
theorem bd_94_76 : decode (bn_b 94) 76 = .ok (.goto 5, 3) := by decide +kernel
theorem bd_94_79 : decode (bn_b 94) 79 = .ok (.bipush 20, 2) := by decide +kernel
theorem bd_94_81 : decode (bn_b 94) 81 = .ok (.putfield 112, 3) := by decide +kernel
theorem bd_94_84 : decode (bn_b 94) 84 = .ok (.return_, 1) := by decide +kernel
theorem bd_95_0 : decode (bn_b 95) 0 = .ok (.aload_n 0, 1) := by decide +kernel
theorem bd_95_1 : decode (bn_b 95) 1 = .ok (.iload_n 2, 1) := by decide +kernel
theorem bd_95_2 : decode (bn_b 95) 2 = .ok (.invokevirtual 115, 3) := by decide +kernel
theorem bd_95_5 : decode (bn_b 95) 5 = .ok (.iload_n 1, 1) := by decide +kernel
theorem bd_95_6 : decode (bn_b 95) 6 = .ok (.if_icmp .ne 38, 3) := by decide +kernel
theorem bd_95_9 : decode (bn_b 95) 9 = .ok (.aload_n 0, 1) := by decide +kernel
theorem bd_95_10 : decode (bn_b 95) 10 = .ok (.iload_n 2, 1) := by decide +kernel
theorem bd_95_11 : decode (bn_b 95) 11 = .ok (.invokevirtual 128, 3) := by decide +kernel
theorem bd_95_14 : decode (bn_b 95) 14 = .ok (.ifCond .ne 30, 3) := by decide +kernel
theorem bd_95_17 : decode (bn_b 95) 17 = .ok (.aload_n 0, 1) := by decide +kernel
theorem bd_95_18 : decode (bn_b 95) 18 = .ok (.getfield 13, 3) := by decide +kernel
theorem bd_95_21 : decode (bn_b 95) 21 = .ok (.iconst 4, 1) := by decide +kernel
theorem bd_95_22 : decode (bn_b 95) 22 = .ok (.iload_n 1, 1) := by decide +kernel
theorem bd_95_23 : decode (bn_b 95) 23 = .ok (.imul, 1) := by decide +kernel
theorem bd_95_24 : decode (bn_b 95) 24 = .ok (.iconst 1, 1) := by decide +kernel
theorem bd_95_25 : decode (bn_b 95) 25 = .ok (.iadd, 1) := by decide +kernel
theorem bd_95_26 : decode (bn_b 95) 26 = .ok (.iaload, 1) := by decide +kernel
theorem bd_95_27 : decode (bn_b 95) 27 = .ok (.ifCond .eq 17, 3) := by decide +kernel
theorem bd_95_30 : decode (bn_b 95) 30 = .ok (.aload_n 0, 1) := by decide +kernel
theorem bd_95_31 : decode (bn_b 95) 31 = .ok (.getfield 13, 3) := by decide +kernel
theorem bd_95_34 : decode (bn_b 95) 34 = .ok (.iconst 4, 1) := by decide +kernel
theorem bd_95_35 : decode (bn_b 95) 35 = .ok (.iload_n 1, 1) := by decide +kernel
theorem bd_95_36 : decode (bn_b 95) 36 = .ok (.imul, 1) := by decide +kernel
theorem bd_95_37 : decode (bn_b 95) 37 = .ok (.iconst 2, 1) := by decide +kernel
theorem bd_95_38 : decode (bn_b 95) 38 = .ok (.iadd, 1) := by decide +kernel
theorem bd_95_39 : decode (bn_b 95) 39 = .ok (.iaload, 1) := by decide +kernel
theorem bd_95_40 : decode (bn_b 95) 40 = .ok (.iconst 1, 1) := by decide +kernel
theorem bd_95_41 : decode (bn_b 95) 41 = .ok (.if_icmp .ne 5, 3) := by decide +kernel
theorem bd_95_44 : decode (bn_b 95) 44 = .ok (.iconst 0, 1) := by decide +kernel
theorem bd_95_45 : decode (bn_b 95) 45 = .ok (.ireturn, 1) := by decide +kernel
theorem bd_95_46 : decode (bn_b 95) 46 = .ok (.iconst 1, 1) := by decide +kernel
theorem bd_95_47 : decode (bn_b 95) 47 = .ok (.istore_n 3, 1) := by decide +kernel
theorem bd_95_48 : decode (bn_b 95) 48 = .ok (.iconst 0, 1) := by decide +kernel
theorem bd_95_49 : decode (bn_b 95) 49 = .ok (.istore 4, 2) := by decide +kernel
theorem bd_95_51 : decode (bn_b 95) 51 = .ok (.iload 4, 2) := by decide +kernel
theorem bd_95_53 : decode (bn_b 95) 53 = .ok (.aload_n 0, 1) := by decide +kernel
theorem bd_95_54 : decode (bn_b 95) 54 = .ok (.getfield 109, 3) := by decide +kernel
theorem bd_95_57 : decode (bn_b 95) 57 = .ok (.if_icmp .ge 98, 3) := by decide +kernel
theorem bd_95_60 : decode (bn_b 95) 60 = .ok (.aload_n 0, 1) := by decide +kernel
theorem bd_95_61 : decode (bn_b 95) 61 = .ok (.getfield 103, 3) := by decide +kernel
theorem bd_95_64 : decode (bn_b 95) 64 = .ok (.iconst 2, 1) := by decide +kernel
theorem bd_95_65 : decode (bn_b 95) 65 = .ok (.if_icmp .ge 90, 3) := by decide +kernel
theorem bd_95_68 : decode (bn_b 95) 68 = .ok (.aload_n 0, 1) := by decide +kernel
theorem bd_95_69 : decode (bn_b 95) 69 = .ok (.getfield 103, 3) := by decide +kernel
theorem bd_95_72 : decode (bn_b 95) 72 = .ok (.ifCond .ne 21, 3) := by decide +kernel
theorem bd_95_75 : decode (bn_b 95) 75 = .ok (.aload_n 0, 1) := by decide +kernel
theorem bd_95_76 : decode (bn_b 95) 76 = .ok (.iload 4, 2) := by decide +kernel
theorem bd_95_78 : decode (bn_b 95) 78 = .ok (.invokevirtual 115, 3) := by decide +kernel
theorem bd_95_81 : decode (bn_b 95) 81 = .ok (.iload_n 1, 1) := by decide +kernel
theorem bd_95_82 : decode (bn_b 95) 82 = .ok (.if_icmp .ne 7, 3) := by decide +kernel
theorem bd_95_85 : decode (bn_b 95) 85 = .ok (.iconst 1, 1) := by decide +kernel
theorem bd_95_86 : decode (bn_b 95) 86 = .ok (.goto 23, 3) := by decide +kernel
theorem bd_95_89 : decode (bn_b 95) 89 = .ok (.iconst 0, 1) := by decide +kernel
theorem bd_95_90 : decode (bn_b 95) 90 = .ok (.goto 19, 3) := by decide +kernel
theorem bd_95_93 : decode (bn_b 95) 93 = .ok (.aload_n 0, 1) := by decide +kernel
theorem bd_95_94 : decode (bn_b 95) 94 = .ok (.iload 4, 2) := by decide +kernel
theorem bd_95_96 : decode (bn_b 95) 96 = .ok (.invokevirtual 115, 3) := by decide +kernel
theorem bd_95_99 : decode (bn_b 95) 99 = .ok (.bipush 10, 2) := by decide +kernel
theorem bd_95_101 : decode (bn_b 95) 101 = .ok (.if_icmp .ge 7, 3) := by decide +kernel
theorem bd_95_104 : decode (bn_b 95) 104 = .ok (.iconst 1, 1) := by decide +kernel
theorem bd_95_105 : decode (bn_b 95) 105 = .ok (.goto 4, 3) := by decide +kernel
theorem bd_95_108 : decode (bn_b 95) 108 = .ok (.iconst 0, 1) := by decide +kernel
theorem bd_95_109 : decode (bn_b 95) 109 = .ok (.istore 5, 2) := by decide +kernel
theorem bd_95_111 : decode (bn_b 95) 111 = .ok (.iload_n 3, 1) := by decide +kernel
theorem bd_95_112 : decode (bn_b 95) 112 = .ok (.ifCond .eq 35, 3) := by decide +kernel
theorem bd_95_115 : decode (bn_b 95) 115 = .ok (.iload 5, 2) := by decide +kernel
theorem bd_95_117 : decode (bn_b 95) 117 = .ok (.ifCond .eq 26, 3) := by decide +kernel
theorem bd_95_120 : decode (bn_b 95) 120 = .ok (.aload_n 0, 1) := by decide +kernel
theorem bd_95_121 : decode (bn_b 95) 121 = .ok (.iload 4, 2) := by decide +kernel
theorem bd_95_123 : decode (bn_b 95) 123 = .ok (.invokevirtual 128, 3) := by decide +kernel
theorem bd_95_126 : decode (bn_b 95) 126 = .ok (.ifCond .ne 17, 3) := by decide +kernel
theorem bd_95_129 : decode (bn_b 95) 129 = .ok (.aload_n 0, 1) := by decide +kernel
theorem bd_95_130 : decode (bn_b 95) 130 = .ok (.iload 4, 2) := by decide +kernel
theorem bd_95_132 : decode (bn_b 95) 132 = .ok (.invokevirtual 138, 3) := by decide +kernel
theorem bd_95_135 : decode (bn_b 95) 135 = .ok (.aload_n 0, 1) := by decide +kernel
theorem bd_95_136 : decode (bn_b 95) 136 = .ok (.iload_n 2, 1) := by decide +kernel
theorem bd_95_137 : decode (bn_b 95) 137 = .ok (.invokevirtual 138, 3) := by decide +kernel
theorem bd_95_140 : decode (bn_b 95) 140 = .ok (.if_icmp .lt 7, 3) := by decide +kernel
theorem bd_95_143 : decode (bn_b 95) 143 = .ok (.iconst 1, 1) := by decide +kernel
theorem bd_95_144 : decode (bn_b 95) 144 = .ok (.goto 4, 3) := by decide +kernel
theorem bd_95_147 : decode (bn_b 95) 147 = .ok (.iconst 0, 1) := by decide +kernel
theorem bd_95_148 : decode (bn_b 95) 148 = .ok (.istore_n 3, 1) := by decide +kernel
theorem bd_95_149 : decode (bn_b 95) 149 = .ok (.iinc 4 1, 3) := by decide +kernel
theorem bd_95_152 : decode (bn_b 95) 152 = .ok (.goto (-101), 3) := by decide +kernel
theorem bd_95_155 : decode (bn_b 95) 155 = .ok (.iload_n 3, 1) := by decide +kernel
theorem bd_95_156 : decode (bn_b 95) 156 = .ok (.ireturn, 1) := by decide +kernel
theorem bd_96_0 : decode (bn_b 96) 0 = .ok (.aload_n 0, 1) := by decide +kernel
theorem bd_96_1 : decode (bn_b 96) 1 = .ok (.iload_n 1, 1) := by decide +kernel
theorem bd_96_2 : decode (bn_b 96) 2 = .ok (.invokevirtual 118, 3) := by decide +kernel
theorem bd_96_5 : decode (bn_b 96) 5 = .ok (.ifCond .eq 11, 3) := by decide +kernel
theorem bd_96_8 : decode (bn_b 96) 8 = .ok (.aload_n 0, 1) := by decide +kernel
theorem bd_96_9 : decode (bn_b 96) 9 = .ok (.iload_n 2, 1) := by decide +kernel
theorem bd_96_10 : decode (bn_b 96) 10 = .ok (.invokevirtual 125, 3) := by decide +kernel
theorem bd_96_13 : decode (bn_b 96) 13 = .ok (.ifCond .ne 5, 3) := by decide +kernel
theorem bd_96_16 : decode (bn_b 96) 16 = .ok (.iconst (-1), 1) := by decide +kernel
theorem bd_96_17 : decode (bn_b 96) 17 = .ok (.ireturn, 1) := by decide +kernel
theorem bd_96_18 : decode (bn_b 96) 18 = .ok (.aload_n 0, 1) := by decide +kernel
theorem bd_96_19 : decode (bn_b 96) 19 = .ok (.iload_n 1, 1) := by decide +kernel
theorem bd_96_20 : decode (bn_b 96) 20 = .ok (.iload_n 2, 1) := by decide +kernel
theorem bd_96_21 : decode (bn_b 96) 21 = .ok (.invokevirtual 141, 3) := by decide +kernel
theorem bd_96_24 : decode (bn_b 96) 24 = .ok (.ifCond .eq 7, 3) := by decide +kernel
theorem bd_96_27 : decode (bn_b 96) 27 = .ok (.iconst 1, 1) := by decide +kernel
theorem bd_96_28 : decode (bn_b 96) 28 = .ok (.goto 4, 3) := by decide +kernel
theorem bd_96_31 : decode (bn_b 96) 31 = .ok (.iconst 0, 1) := by decide +kernel
theorem bd_96_32 : decode (bn_b 96) 32 = .ok (.ireturn, 1) := by decide +kernel
theorem bd_97_0 : decode (bn_b 97) 0 = .ok (.bipush 20, 2) := by decide +kernel
theorem bd_97_2 : decode (bn_b 97) 2 = .ok (.iconst 5, 1) := by decide +kernel
theorem bd_97_3 : decode (bn_b 97) 3 = .ok (.iload_n 2, 1) := by decide +kernel
theorem bd_97_4 : decode (bn_b 97) 4 = .ok (.imul, 1) := by decide +kernel
theorem bd_97_5 : decode (bn_b 97) 5 = .ok (.iadd, 1) := by decide +kernel
theorem bd_97_6 : decode (bn_b 97) 6 = .ok (.istore_n 3, 1) := by decide +kernel
theorem bd_97_7 : decode (bn_b 97) 7 = .ok (.aload_n 0, 1) := by decide +kernel
theorem bd_97_8 : decode (bn_b 97) 8 = .ok (.getfield 13, 3) := by decide +kernel
theorem bd_97_11 : decode (bn_b 97) 11 = .ok (.iload_n 3, 1) := by decide +kernel
theorem bd_97_12 : decode (bn_b 97) 12 = .ok (.iconst 1, 1) := by decide +kernel
theorem bd_97_13 : decode (bn_b 97) 13 = .ok (.iadd, 1) := by decide +kernel
theorem bd_97_14 : decode (bn_b 97) 14 = .ok (.bipush 20, 2) := by decide +kernel
theorem bd_97_16 : decode (bn_b 97) 16 = .ok (.iastore, 1) := by decide +kernel
theorem bd_97_17 : decode (bn_b 97) 17 = .ok (.aload_n 0, 1) := by decide +kernel
theorem bd_97_18 : decode (bn_b 97) 18 = .ok (.getfield 13, 3) := by decide +kernel
theorem bd_97_21 : decode (bn_b 97) 21 = .ok (.iload_n 3, 1) := by decide +kernel
theorem bd_97_22 : decode (bn_b 97) 22 = .ok (.iconst 3, 1) := by decide +kernel
theorem bd_97_23 : decode (bn_b 97) 23 = .ok (.iadd, 1) := by decide +kernel
theorem bd_97_24 : decode (bn_b 97) 24 = .ok (.iload_n 1, 1) := by decide +kernel
theorem bd_97_25 : decode (bn_b 97) 25 = .ok (.iastore, 1) := by decide +kernel
theorem bd_97_26 : decode (bn_b 97) 26 = .ok (.aload_n 0, 1) := by decide +kernel
theorem bd_97_27 : decode (bn_b 97) 27 = .ok (.getfield 13, 3) := by decide +kernel
theorem bd_97_30 : decode (bn_b 97) 30 = .ok (.iload_n 3, 1) := by decide +kernel
theorem bd_97_31 : decode (bn_b 97) 31 = .ok (.iconst 4, 1) := by decide +kernel
theorem bd_97_32 : decode (bn_b 97) 32 = .ok (.iadd, 1) := by decide +kernel
theorem bd_97_33 : decode (bn_b 97) 33 = .ok (.aload_n 0, 1) := by decide +kernel
theorem bd_97_34 : decode (bn_b 97) 34 = .ok (.getfield 13, 3) := by decide +kernel
theorem bd_97_37 : decode (bn_b 97) 37 = .ok (.bipush 70, 2) := by decide +kernel
theorem bd_97_39 : decode (bn_b 97) 39 = .ok (.iaload, 1) := by decide +kernel
theorem bd_97_40 : decode (bn_b 97) 40 = .ok (.iastore, 1) := by decide +kernel
theorem bd_97_41 : decode (bn_b 97) 41 = .ok (.aload_n 0, 1) := by decide +kernel
theorem bd_97_42 : decode (bn_b 97) 42 = .ok (.getfield 13, 3) := by decide +kernel
theorem bd_97_45 : decode (bn_b 97) 45 = .ok (.iconst 4, 1) := by decide +kernel
theorem bd_97_46 : decode (bn_b 97) 46 = .ok (.iload_n 1, 1) := by decide +kernel
theorem bd_97_47 : decode (bn_b 97) 47 = .ok (.imul, 1) := by decide +kernel
theorem bd_97_48 : decode (bn_b 97) 48 = .ok (.iconst 0, 1) := by decide +kernel
theorem bd_97_49 : decode (bn_b 97) 49 = .ok (.iastore, 1) := by decide +kernel
theorem bd_97_50 : decode (bn_b 97) 50 = .ok (.aload_n 0, 1) := by decide +kernel
theorem bd_97_51 : decode (bn_b 97) 51 = .ok (.getfield 13, 3) := by decide +kernel
theorem bd_97_54 : decode (bn_b 97) 54 = .ok (.iconst 4, 1) := by decide +kernel
theorem bd_97_55 : decode (bn_b 97) 55 = .ok (.iload_n 1, 1) := by decide +kernel
theorem bd_97_56 : decode (bn_b 97) 56 = .ok (.imul, 1) := by decide +kernel
theorem bd_97_57 : decode (bn_b 97) 57 = .ok (.iconst 2, 1) := by decide +kernel
theorem bd_97_58 : decode (bn_b 97) 58 = .ok (.iadd, 1) := by decide +kernel
theorem bd_97_59 : decode (bn_b 97) 59 = .ok (.iconst 1, 1) := by decide +kernel
theorem bd_97_60 : decode (bn_b 97) 60 = .ok (.iastore, 1) := by decide +kernel
theorem bd_97_61 : decode (bn_b 97) 61 = .ok (.aload_n 0, 1) := by decide +kernel
theorem bd_97_62 : decode (bn_b 97) 62 = .ok (.getfield 13, 3) := by decide +kernel
theorem bd_97_65 : decode (bn_b 97) 65 = .ok (.iconst 4, 1) := by decide +kernel
theorem bd_97_66 : decode (bn_b 97) 66 = .ok (.iload_n 1, 1) := by decide +kernel
theorem bd_97_67 : decode (bn_b 97) 67 = .ok (.imul, 1) := by decide +kernel
theorem bd_97_68 : decode (bn_b 97) 68 = .ok (.iconst 3, 1) := by decide +kernel
theorem bd_97_69 : decode (bn_b 97) 69 = .ok (.iadd, 1) := by decide +kernel
theorem bd_97_70 : decode (bn_b 97) 70 = .ok (.dup2, 1) := by decide +kernel
theorem bd_97_71 : decode (bn_b 97) 71 = .ok (.iaload, 1) := by decide +kernel
theorem bd_97_72 : decode (bn_b 97) 72 = .ok (.iconst 1, 1) := by decide +kernel
theorem bd_97_73 : decode (bn_b 97) 73 = .ok (.iadd, 1) := by decide +kernel
theorem bd_97_74 : decode (bn_b 97) 74 = .ok (.iastore, 1) := by decide +kernel
theorem bd_97_75 : decode (bn_b 97) 75 = .ok (.return_, 1) := by decide +kernel
theorem bd_98_0 : decode (bn_b 98) 0 = .ok (.aload_n 0, 1) := by decide +kernel
theorem bd_98_1 : decode (bn_b 98) 1 = .ok (.iload_n 1, 1) := by decide +kernel
theorem bd_98_2 : decode (bn_b 98) 2 = .ok (.invokevirtual 118, 3) := by decide +kernel
theorem bd_98_5 : decode (bn_b 98) 5 = .ok (.ifCond .eq 11, 3) := by decide +kernel
theorem bd_98_8 : decode (bn_b 98) 8 = .ok (.aload_n 0, 1) := by decide +kernel
theorem bd_98_9 : decode (bn_b 98) 9 = .ok (.iload_n 2, 1) := by decide +kernel
theorem bd_98_10 : decode (bn_b 98) 10 = .ok (.invokevirtual 125, 3) := by decide +kernel
theorem bd_98_13 : decode (bn_b 98) 13 = .ok (.ifCond .ne 5, 3) := by decide +kernel
theorem bd_98_16 : decode (bn_b 98) 16 = .ok (.iconst (-1), 1) := by decide +kernel
theorem bd_98_17 : decode (bn_b 98) 17 = .ok (.ireturn, 1) := by decide +kernel
theorem bd_98_18 : decode (bn_b 98) 18 = .ok (.aload_n 0, 1) := by decide +kernel
theorem bd_98_19 : decode (bn_b 98) 19 = .ok (.iload_n 1, 1) := by decide +kernel
theorem bd_98_20 : decode (bn_b 98) 20 = .ok (.iload_n 2, 1) := by decide +kernel
theorem bd_98_21 : decode (bn_b 98) 21 = .ok (.invokevirtual 141, 3) := by decide +kernel
theorem bd_98_24 : decode (bn_b 98) 24 = .ok (.ifCond .ne 6, 3) := by decide +kernel
theorem bd_98_27 : decode (bn_b 98) 27 = .ok (.bipush (-3), 2) := by decide +kernel
theorem bd_98_29 : decode (bn_b 98) 29 = .ok (.ireturn, 1) := by decide +kernel
theorem bd_98_30 : decode (bn_b 98) 30 = .ok (.aload_n 0, 1) := by decide +kernel
theorem bd_98_31 : decode (bn_b 98) 31 = .ok (.invokevirtual 145, 3) := by decide +kernel
theorem bd_98_34 : decode (bn_b 98) 34 = .ok (.aload_n 0, 1) := by decide +kernel
theorem bd_98_35 : decode (bn_b 98) 35 = .ok (.iload_n 1, 1) := by decide +kernel
theorem bd_98_36 : decode (bn_b 98) 36 = .ok (.iload_n 2, 1) := by decide +kernel
theorem bd_98_37 : decode (bn_b 98) 37 = .ok (.invokevirtual 148, 3) := by decide +kernel
theorem bd_98_40 : decode (bn_b 98) 40 = .ok (.aload_n 0, 1) := by decide +kernel
theorem bd_98_41 : decode (bn_b 98) 41 = .ok (.iload_n 2, 1) := by decide +kernel
theorem bd_98_42 : decode (bn_b 98) 42 = .ok (.invokevirtual 138, 3) := by decide +kernel
theorem bd_98_45 : decode (bn_b 98) 45 = .ok (.ireturn, 1) := by decide +kernel
theorem bd_99_0 : decode (bn_b 99) 0 = .ok (.aload_n 0, 1) := by decide +kernel
theorem bd_99_1 : decode (bn_b 99) 1 = .ok (.iload_n 1, 1) := by decide +kernel
theorem bd_99_2 : decode (bn_b 99) 2 = .ok (.invokevirtual 125, 3) := by decide +kernel
theorem bd_99_5 : decode (bn_b 99) 5 = .ok (.ifCond .eq 17, 3) := by decide +kernel
theorem bd_99_8 : decode (bn_b 99) 8 = .ok (.iload_n 2, 1) := by decide +kernel
theorem bd_99_9 : decode (bn_b 99) 9 = .ok (.bipush 10, 2) := by decide +kernel
theorem bd_99_11 : decode (bn_b 99) 11 = .ok (.if_icmp .eq 13, 3) := by decide +kernel
theorem bd_99_14 : decode (bn_b 99) 14 = .ok (.aload_n 0, 1) := by decide +kernel
theorem bd_99_15 : decode (bn_b 99) 15 = .ok (.iload_n 2, 1) := by decide +kernel
theorem bd_99_16 : decode (bn_b 99) 16 = .ok (.invokevirtual 118, 3) := by decide +kernel
theorem bd_99_19 : decode (bn_b 99) 19 = .ok (.ifCond .ne 5, 3) := by decide +kernel
theorem bd_99_22 : decode (bn_b 99) 22 = .ok (.iconst (-1), 1) := by decide +kernel
theorem bd_99_23 : decode (bn_b 99) 23 = .ok (.ireturn, 1) := by decide +kernel
theorem bd_99_24 : decode (bn_b 99) 24 = .ok (.aload_n 0, 1) := by decide +kernel
theorem bd_99_25 : decode (bn_b 99) 25 = .ok (.iload_n 1, 1) := by decide +kernel
theorem bd_99_26 : decode (bn_b 99) 26 = .ok (.invokevirtual 115, 3) := by decide +kernel
theorem bd_99_29 : decode (bn_b 99) 29 = .ok (.istore_n 3, 1) := by decide +kernel
theorem bd_99_30 : decode (bn_b 99) 30 = .ok (.iload_n 3, 1) := by decide +kernel
theorem bd_99_31 : decode (bn_b 99) 31 = .ok (.bipush 20, 2) := by decide +kernel
theorem bd_99_33 : decode (bn_b 99) 33 = .ok (.if_icmp .eq 27, 3) := by decide +kernel
theorem bd_99_36 : decode (bn_b 99) 36 = .ok (.iload_n 3, 1) := by decide +kernel
theorem bd_99_37 : decode (bn_b 99) 37 = .ok (.iload_n 2, 1) := by decide +kernel
theorem bd_99_38 : decode (bn_b 99) 38 = .ok (.if_icmp .eq 22, 3) := by decide +kernel
theorem bd_99_41 : decode (bn_b 99) 41 = .ok (.iload_n 2, 1) := by decide +kernel
theorem bd_99_42 : decode (bn_b 99) 42 = .ok (.bipush 10, 2) := by decide +kernel
theorem bd_99_44 : decode (bn_b 99) 44 = .ok (.if_icmp .eq 19, 3) := by decide +kernel
theorem bd_99_47 : decode (bn_b 99) 47 = .ok (.aload_n 0, 1) := by decide +kernel
theorem bd_99_48 : decode (bn_b 99) 48 = .ok (.getfield 13, 3) := by decide +kernel
theorem bd_99_51 : decode (bn_b 99) 51 = .ok (.iconst 4, 1) := by decide +kernel
theorem bd_99_52 : decode (bn_b 99) 52 = .ok (.iload_n 2, 1) := by decide +kernel
theorem bd_99_53 : decode (bn_b 99) 53 = .ok (.imul, 1) := by decide +kernel
theorem bd_99_54 : decode (bn_b 99) 54 = .ok (.iconst 1, 1) := by decide +kernel
theorem bd_99_55 : decode (bn_b 99) 55 = .ok (.iadd, 1) := by decide +kernel
theorem bd_99_56 : decode (bn_b 99) 56 = .ok (.iaload, 1) := by decide +kernel
theorem bd_99_57 : decode (bn_b 99) 57 = .ok (.ifCond .ne 6, 3) := by decide +kernel
theorem bd_99_60 : decode (bn_b 99) 60 = .ok (.bipush (-3), 2) := by decide +kernel
theorem bd_99_62 : decode (bn_b 99) 62 = .ok (.ireturn, 1) := by decide +kernel
theorem bd_99_63 : decode (bn_b 99) 63 = .ok (.aload_n 0, 1) := by decide +kernel
theorem bd_99_64 : decode (bn_b 99) 64 = .ok (.invokevirtual 145, 3) := by decide +kernel
theorem bd_99_67 : decode (bn_b 99) 67 = .ok (.aload_n 0, 1) := by decide +kernel
theorem bd_99_68 : decode (bn_b 99) 68 = .ok (.getfield 13, 3) := by decide +kernel
theorem bd_99_71 : decode (bn_b 99) 71 = .ok (.bipush 21, 2) := by decide +kernel
theorem bd_99_73 : decode (bn_b 99) 73 = .ok (.iconst 5, 1) := by decide +kernel
theorem bd_99_74 : decode (bn_b 99) 74 = .ok (.iload_n 1, 1) := by decide +kernel
theorem bd_99_75 : decode (bn_b 99) 75 = .ok (.imul, 1) := by decide +kernel
theorem bd_99_76 : decode (bn_b 99) 76 = .ok (.iadd, 1) := by decide +kernel
theorem bd_99_77 : decode (bn_b 99) 77 = .ok (.iload_n 2, 1) := by decide +kernel
theorem bd_99_78 : decode (bn_b 99) 78 = .ok (.iastore, 1) := by decide +kernel
theorem bd_99_79 : decode (bn_b 99) 79 = .ok (.iload_n 3, 1) := by decide +kernel
theorem bd_99_80 : decode (bn_b 99) 80 = .ok (.ireturn, 1) := by decide +kernel
theorem bd_100_0 : decode (bn_b 100) 0 = .ok (.iload_n 0, 1) := by decide +kernel
theorem bd_100_1 : decode (bn_b 100) 1 = .ok (.bipush 10, 2) := by decide +kernel
theorem bd_100_3 : decode (bn_b 100) 3 = .ok (.idiv, 1) := by decide +kernel
theorem bd_100_4 : decode (bn_b 100) 4 = .ok (.bipush 9, 2) := by decide +kernel
theorem bd_100_6 : decode (bn_b 100) 6 = .ok (.if_icmp .ne 10, 3) := by decide +kernel
theorem bd_100_9 : decode (bn_b 100) 9 = .ok (.iload_n 0, 1) := by decide +kernel
theorem bd_100_10 : decode (bn_b 100) 10 = .ok (.bipush 30, 2) := by decide +kernel
theorem bd_100_12 : decode (bn_b 100) 12 = .ok (.isub, 1) := by decide +kernel
theorem bd_100_13 : decode (bn_b 100) 13 = .ok (.goto 19, 3) := by decide +kernel
theorem bd_100_16 : decode (bn_b 100) 16 = .ok (.iload_n 0, 1) := by decide +kernel
theorem bd_100_17 : decode (bn_b 100) 17 = .ok (.bipush 10, 2) := by decide +kernel
theorem bd_100_19 : decode (bn_b 100) 19 = .ok (.irem, 1) := by decide +kernel
theorem bd_100_20 : decode (bn_b 100) 20 = .ok (.bipush 9, 2) := by decide +kernel
theorem bd_100_22 : decode (bn_b 100) 22 = .ok (.if_icmp .ne 9, 3) := by decide +kernel
theorem bd_100_25 : decode (bn_b 100) 25 = .ok (.iload_n 0, 1) := by decide +kernel
theorem bd_100_26 : decode (bn_b 100) 26 = .ok (.iconst 3, 1) := by decide +kernel
theorem bd_100_27 : decode (bn_b 100) 27 = .ok (.isub, 1) := by decide +kernel
theorem bd_100_28 : decode (bn_b 100) 28 = .ok (.goto 4, 3) := by decide +kernel
theorem bd_100_31 : decode (bn_b 100) 31 = .ok (.iload_n 0, 1) := by decide +kernel
theorem bd_100_32 : decode (bn_b 100) 32 = .ok (.ireturn, 1) := by decide +kernel
theorem bd_101_0 : decode (bn_b 101) 0 = .ok (.aload_n 0, 1) := by decide +kernel
theorem bd_101_1 : decode (bn_b 101) 1 = .ok (.iload_n 1, 1) := by decide +kernel
theorem bd_101_2 : decode (bn_b 101) 2 = .ok (.invokevirtual 125, 3) := by decide +kernel
theorem bd_101_5 : decode (bn_b 101) 5 = .ok (.ifCond .ne 5, 3) := by decide +kernel
theorem bd_101_8 : decode (bn_b 101) 8 = .ok (.iconst (-1), 1) := by decide +kernel
theorem bd_101_9 : decode (bn_b 101) 9 = .ok (.ireturn, 1) := by decide +kernel
theorem bd_101_10 : decode (bn_b 101) 10 = .ok (.aload_n 0, 1) := by decide +kernel
theorem bd_101_11 : decode (bn_b 101) 11 = .ok (.iload_n 1, 1) := by decide +kernel
theorem bd_101_12 : decode (bn_b 101) 12 = .ok (.invokevirtual 115, 3) := by decide +kernel
theorem bd_101_15 : decode (bn_b 101) 15 = .ok (.bipush 20, 2) := by decide +kernel
theorem bd_101_17 : decode (bn_b 101) 17 = .ok (.if_icmp .eq 19, 3) := by decide +kernel
theorem bd_101_20 : decode (bn_b 101) 20 = .ok (.aload_n 0, 1) := by decide +kernel
theorem bd_101_21 : decode (bn_b 101) 21 = .ok (.iload_n 1, 1) := by decide +kernel
theorem bd_101_22 : decode (bn_b 101) 22 = .ok (.invokevirtual 138, 3) := by decide +kernel
theorem bd_101_25 : decode (bn_b 101) 25 = .ok (.invokestatic 152, 3) := by decide +kernel
theorem bd_101_28 : decode (bn_b 101) 28 = .ok (.aload_n 0, 1) := by decide +kernel
theorem bd_101_29 : decode (bn_b 101) 29 = .ok (.iload_n 1, 1) := by decide +kernel
theorem bd_101_30 : decode (bn_b 101) 30 = .ok (.invokevirtual 138, 3) := by decide +kernel
theorem bd_101_33 : decode (bn_b 101) 33 = .ok (.if_icmp .ne 6, 3) := by decide +kernel
theorem bd_101_36 : decode (bn_b 101) 36 = .ok (.bipush (-3), 2) := by decide +kernel
theorem bd_101_38 : decode (bn_b 101) 38 = .ok (.ireturn, 1) := by decide +kernel
theorem bd_101_39 : decode (bn_b 101) 39 = .ok (.aload_n 0, 1) := by decide +kernel
theorem bd_101_40 : decode (bn_b 101) 40 = .ok (.invokevirtual 145, 3) := by decide +kernel
theorem bd_101_43 : decode (bn_b 101) 43 = .ok (.aload_n 0, 1) := by decide +kernel
theorem bd_101_44 : decode (bn_b 101) 44 = .ok (.getfield 13, 3) := by decide +kernel
theorem bd_101_47 : decode (bn_b 101) 47 = .ok (.bipush 20, 2) := by decide +kernel
theorem bd_101_49 : decode (bn_b 101) 49 = .ok (.iconst 5, 1) := by decide +kernel
theorem bd_101_50 : decode (bn_b 101) 50 = .ok (.iload_n 1, 1) := by decide +kernel
theorem bd_101_51 : decode (bn_b 101) 51 = .ok (.imul, 1) := by decide +kernel
theorem bd_101_52 : decode (bn_b 101) 52 = .ok (.iadd, 1) := by decide +kernel
theorem bd_101_53 : decode (bn_b 101) 53 = .ok (.aload_n 0, 1) := by decide +kernel
theorem bd_101_54 : decode (bn_b 101) 54 = .ok (.iload_n 1, 1) := by decide +kernel
theorem bd_101_55 : decode (bn_b 101) 55 = .ok (.invokevirtual 138, 3) := by decide +kernel
theorem bd_101_58 : decode (bn_b 101) 58 = .ok (.invokestatic 152, 3) := by decide +kernel
theorem bd_101_61 : decode (bn_b 101) 61 = .ok (.iastore, 1) := by decide +kernel
theorem bd_101_62 : decode (bn_b 101) 62 = .ok (.aload_n 0, 1) := by decide +kernel
theorem bd_101_63 : decode (bn_b 101) 63 = .ok (.iload_n 1, 1) := by decide +kernel
theorem bd_101_64 : decode (bn_b 101) 64 = .ok (.invokevirtual 138, 3) := by decide +kernel
theorem bd_101_67 : decode (bn_b 101) 67 = .ok (.ireturn, 1) := by decide +kernel
theorem bd_102_0 : decode (bn_b 102) 0 = .ok (.iconst 0, 1) := by decide +kernel
theorem bd_102_1 : decode (bn_b 102) 1 = .ok (.istore_n 1, 1) := by decide +kernel
theorem bd_102_2 : decode (bn_b 102) 2 = .ok (.iconst 0, 1) := by decide +kernel
theorem bd_102_3 : decode (bn_b 102) 3 = .ok (.istore_n 2, 1) := by decide +kernel
theorem bd_102_4 : decode (bn_b 102) 4 = .ok (.iload_n 2, 1) := by decide +kernel
theorem bd_102_5 : decode (bn_b 102) 5 = .ok (.aload_n 0, 1) := by decide +kernel
theorem bd_102_6 : decode (bn_b 102) 6 = .ok (.getfield 106, 3) := by decide +kernel
theorem bd_102_9 : decode (bn_b 102) 9 = .ok (.if_icmp .ge 127, 3) := by decide +kernel
theorem bd_102_12 : decode (bn_b 102) 12 = .ok (.iconst 4, 1) := by decide +kernel
theorem bd_102_13 : decode (bn_b 102) 13 = .ok (.iload_n 2, 1) := by decide +kernel
theorem bd_102_14 : decode (bn_b 102) 14 = .ok (.imul, 1) := by decide +kernel
theorem bd_102_15 : decode (bn_b 102) 15 = .ok (.istore_n 3, 1) := by decide +kernel
theorem bd_102_16 : decode (bn_b 102) 16 = .ok (.aload_n 0, 1) := by decide +kernel
theorem bd_102_17 : decode (bn_b 102) 17 = .ok (.getfield 13, 3) := by decide +kernel
theorem bd_102_20 : decode (bn_b 102) 20 = .ok (.iload_n 3, 1) := by decide +kernel
theorem bd_102_21 : decode (bn_b 102) 21 = .ok (.dup2, 1) := by decide +kernel
theorem bd_102_22 : decode (bn_b 102) 22 = .ok (.iaload, 1) := by decide +kernel
theorem bd_102_23 : decode (bn_b 102) 23 = .ok (.aload_n 0, 1) := by decide +kernel
theorem bd_102_24 : decode (bn_b 102) 24 = .ok (.getfield 13, 3) := by decide +kernel
theorem bd_102_27 : decode (bn_b 102) 27 = .ok (.iload_n 3, 1) := by decide +kernel
theorem bd_102_28 : decode (bn_b 102) 28 = .ok (.iconst 1, 1) := by decide +kernel
theorem bd_102_29 : decode (bn_b 102) 29 = .ok (.iadd, 1) := by decide +kernel
theorem bd_102_30 : decode (bn_b 102) 30 = .ok (.iaload, 1) := by decide +kernel
theorem bd_102_31 : decode (bn_b 102) 31 = .ok (.iconst 1, 1) := by decide +kernel
theorem bd_102_32 : decode (bn_b 102) 32 = .ok (.if_icmp .ne 18, 3) := by decide +kernel
theorem bd_102_35 : decode (bn_b 102) 35 = .ok (.aload_n 0, 1) := by decide +kernel
theorem bd_102_36 : decode (bn_b 102) 36 = .ok (.getfield 13, 3) := by decide +kernel
theorem bd_102_39 : decode (bn_b 102) 39 = .ok (.iload_n 3, 1) := by decide +kernel
theorem bd_102_40 : decode (bn_b 102) 40 = .ok (.iconst 2, 1) := by decide +kernel
theorem bd_102_41 : decode (bn_b 102) 41 = .ok (.iadd, 1) := by decide +kernel
theorem bd_102_42 : decode (bn_b 102) 42 = .ok (.iaload, 1) := by decide +kernel
theorem bd_102_43 : decode (bn_b 102) 43 = .ok (.ifCond .ne 7, 3) := by decide +kernel
theorem bd_102_46 : decode (bn_b 102) 46 = .ok (.iconst 1, 1) := by decide +kernel
theorem bd_102_47 : decode (bn_b 102) 47 = .ok (.goto 4, 3) := by decide +kernel
theorem bd_102_50 : decode (bn_b 102) 50 = .ok (.iconst 0, 1) := by decide +kernel
theorem bd_102_51 : decode (bn_b 102) 51 = .ok (.iadd, 1) := by decide +kernel
theorem bd_102_52 : decode (bn_b 102) 52 = .ok (.iastore, 1) := by decide +kernel
theorem bd_102_53 : decode (bn_b 102) 53 = .ok (.iload_n 1, 1) := by decide +kernel
theorem bd_102_54 : decode (bn_b 102) 54 = .ok (.aload_n 0, 1) := by decide +kernel
theorem bd_102_55 : decode (bn_b 102) 55 = .ok (.getfield 13, 3) := by decide +kernel
theorem bd_102_58 : decode (bn_b 102) 58 = .ok (.iload_n 3, 1) := by decide +kernel
theorem bd_102_59 : decode (bn_b 102) 59 = .ok (.iconst 1, 1) := by decide +kernel
theorem bd_102_60 : decode (bn_b 102) 60 = .ok (.iadd, 1) := by decide +kernel
theorem bd_102_61 : decode (bn_b 102) 61 = .ok (.iaload, 1) := by decide +kernel
theorem bd_102_62 : decode (bn_b 102) 62 = .ok (.iconst 1, 1) := by decide +kernel
theorem bd_102_63 : decode (bn_b 102) 63 = .ok (.if_icmp .ne 22, 3) := by decide +kernel
theorem bd_102_66 : decode (bn_b 102) 66 = .ok (.aload_n 0, 1) := by decide +kernel
theorem bd_102_67 : decode (bn_b 102) 67 = .ok (.getfield 13, 3) := by decide +kernel
theorem bd_102_70 : decode (bn_b 102) 70 = .ok (.iload_n 3, 1) := by decide +kernel
theorem bd_102_71 : decode (bn_b 102) 71 = .ok (.iaload, 1) := by decide +kernel
theorem bd_102_72 : decode (bn_b 102) 72 = .ok (.aload_n 0, 1) := by decide +kernel
theorem bd_102_73 : decode (bn_b 102) 73 = .ok (.getfield 48, 3) := by decide +kernel
theorem bd_102_76 : decode (bn_b 102) 76 = .ok (.if_icmp .le 9, 3) := by decide +kernel
theorem bd_102_79 : decode (bn_b 102) 79 = .ok (.iconst 1, 1) := by decide +kernel
theorem bd_102_80 : decode (bn_b 102) 80 = .ok (.iload_n 2, 1) := by decide +kernel
theorem bd_102_81 : decode (bn_b 102) 81 = .ok (.ishl, 1) := by decide +kernel
theorem bd_102_82 : decode (bn_b 102) 82 = .ok (.goto 4, 3) := by decide +kernel
theorem bd_102_85 : decode (bn_b 102) 85 = .ok (.iconst 0, 1) := by decide +kernel
theorem bd_102_86 : decode (bn_b 102) 86 = .ok (.ior, 1) := by decide +kernel
theorem bd_102_87 : decode (bn_b 102) 87 = .ok (.istore_n 1, 1) := by decide +kernel
theorem bd_102_88 : decode (bn_b 102) 88 = .ok (.aload_n 0, 1) := by decide +kernel
theorem bd_102_89 : decode (bn_b 102) 89 = .ok (.getfield 13, 3) := by decide +kernel
theorem bd_102_92 : decode (bn_b 102) 92 = .ok (.iload_n 3, 1) := by decide +kernel
theorem bd_102_93 : decode (bn_b 102) 93 = .ok (.iconst 1, 1) := by decide +kernel
theorem bd_102_94 : decode (bn_b 102) 94 = .ok (.iadd, 1) := by decide +kernel
theorem bd_102_95 : decode (bn_b 102) 95 = .ok (.aload_n 0, 1) := by decide +kernel
theorem bd_102_96 : decode (bn_b 102) 96 = .ok (.getfield 13, 3) := by decide +kernel
theorem bd_102_99 : decode (bn_b 102) 99 = .ok (.iload_n 3, 1) := by decide +kernel
theorem bd_102_100 : decode (bn_b 102) 100 = .ok (.iaload, 1) := by decide +kernel
theorem bd_102_101 : decode (bn_b 102) 101 = .ok (.aload_n 0, 1) := by decide +kernel
theorem bd_102_102 : decode (bn_b 102) 102 = .ok (.getfield 48, 3) := by decide +kernel
theorem bd_102_105 : decode (bn_b 102) 105 = .ok (.if_icmp .le 7, 3) := by decide +kernel
theorem bd_102_108 : decode (bn_b 102) 108 = .ok (.iconst 0, 1) := by decide +kernel
theorem bd_102_109 : decode (bn_b 102) 109 = .ok (.goto 11, 3) := by decide +kernel
theorem bd_102_112 : decode (bn_b 102) 112 = .ok (.aload_n 0, 1) := by decide +kernel
theorem bd_102_113 : decode (bn_b 102) 113 = .ok (.getfield 13, 3) := by decide +kernel
theorem bd_102_116 : decode (bn_b 102) 116 = .ok (.iload_n 3, 1) := by decide +kernel
theorem bd_102_117 : decode (bn_b 102) 117 = .ok (.iconst 1, 1) := by decide +kernel
theorem bd_102_118 : decode (bn_b 102) 118 = .ok (.iadd, 1) := by decide +kernel
theorem bd_102_119 : decode (bn_b 102) 119 = .ok (.iaload, 1) := by decide +kernel
theorem bd_102_120 : decode (bn_b 102) 120 = .ok (.iastore, 1) := by decide +kernel
theorem bd_102_121 : decode (bn_b 102) 121 = .ok (.aload_n 0, 1) := by decide +kernel
theorem bd_102_122 : decode (bn_b 102) 122 = .ok (.getfield 13, 3) := by decide +kernel
theorem bd_102_125 : decode (bn_b 102) 125 = .ok (.iload_n 3, 1) := by decide +kernel
theorem bd_102_126 : decode (bn_b 102) 126 = .ok (.iconst 2, 1) := by decide +kernel
theorem bd_102_127 : decode (bn_b 102) 127 = .ok (.iadd, 1) := by decide +kernel
theorem bd_102_128 : decode (bn_b 102) 128 = .ok (.iconst 0, 1) := by decide +kernel
theorem bd_102_129 : decode (bn_b 102) 129 = .ok (.iastore, 1) := by decide +kernel
theorem bd_102_130 : decode (bn_b 102) 130 = .ok (.iinc 2 1, 3) := by decide +kernel
theorem bd_102_133 : decode (bn_b 102) 133 = .ok (.goto (-129), 3) := by decide +kernel
theorem bd_102_136 : decode (bn_b 102) 136 = .ok (.iconst 0, 1) := by decide +kernel
theorem bd_102_137 : decode (bn_b 102) 137 = .ok (.istore_n 2, 1) := by decide +kernel
theorem bd_102_138 : decode (bn_b 102) 138 = .ok (.iload_n 2, 1) := by decide +kernel
theorem bd_102_139 : decode (bn_b 102) 139 = .ok (.aload_n 0, 1) := by decide +kernel
theorem bd_102_140 : decode (bn_b 102) 140 = .ok (.getfield 109, 3) := by decide +kernel
theorem bd_102_143 : decode (bn_b 102) 143 = .ok (.if_icmp .ge 108, 3) := by decide +kernel
theorem bd_102_146 : decode (bn_b 102) 146 = .ok (.bipush 20, 2) := by decide +kernel
theorem bd_102_148 : decode (bn_b 102) 148 = .ok (.iconst 5, 1) := by decide +kernel
theorem bd_102_149 : decode (bn_b 102) 149 = .ok (.iload_n 2, 1) := by decide +kernel
theorem bd_102_150 : decode (bn_b 102) 150 = .ok (.imul, 1) := by decide +kernel
theorem bd_102_151 : decode (bn_b 102) 151 = .ok (.iadd, 1) := by decide +kernel
theorem bd_102_152 : decode (bn_b 102) 152 = .ok (.istore_n 3, 1) := by decide +kernel
theorem bd_102_153 : decode (bn_b 102) 153 = .ok (.aload_n 0, 1) := by decide +kernel
theorem bd_102_154 : decode (bn_b 102) 154 = .ok (.getfield 13, 3) := by decide +kernel
theorem bd_102_157 : decode (bn_b 102) 157 = .ok (.iload_n 3, 1) := by decide +kernel
theorem bd_102_158 : decode (bn_b 102) 158 = .ok (.iconst 2, 1) := by decide +kernel
theorem bd_102_159 : decode (bn_b 102) 159 = .ok (.iadd, 1) := by decide +kernel
theorem bd_102_160 : decode (bn_b 102) 160 = .ok (.dup2, 1) := by decide +kernel
theorem bd_102_161 : decode (bn_b 102) 161 = .ok (.iaload, 1) := by decide +kernel
theorem bd_102_162 : decode (bn_b 102) 162 = .ok (.aload_n 0, 1) := by decide +kernel
theorem bd_102_163 : decode (bn_b 102) 163 = .ok (.getfield 13, 3) := by decide +kernel
theorem bd_102_166 : decode (bn_b 102) 166 = .ok (.iload_n 3, 1) := by decide +kernel
theorem bd_102_167 : decode (bn_b 102) 167 = .ok (.iconst 1, 1) := by decide +kernel
theorem bd_102_168 : decode (bn_b 102) 168 = .ok (.iadd, 1) := by decide +kernel
theorem bd_102_169 : decode (bn_b 102) 169 = .ok (.iaload, 1) := by decide +kernel
theorem bd_102_170 : decode (bn_b 102) 170 = .ok (.bipush 20, 2) := by decide +kernel
theorem bd_102_172 : decode (bn_b 102) 172 = .ok (.if_icmp .eq 20, 3) := by decide +kernel
theorem bd_102_175 : decode (bn_b 102) 175 = .ok (.aload_n 0, 1) := by decide +kernel
theorem bd_102_176 : decode (bn_b 102) 176 = .ok (.getfield 13, 3) := by decide +kernel
theorem bd_102_179 : decode (bn_b 102) 179 = .ok (.iload_n 3, 1) := by decide +kernel
theorem bd_102_180 : decode (bn_b 102) 180 = .ok (.iconst 2, 1) := by decide +kernel
theorem bd_102_181 : decode (bn_b 102) 181 = .ok (.iadd, 1) := by decide +kernel
theorem bd_102_182 : decode (bn_b 102) 182 = .ok (.iaload, 1) := by decide +kernel
theorem bd_102_183 : decode (bn_b 102) 183 = .ok (.bipush 99, 2) := by decide +kernel
theorem bd_102_185 : decode (bn_b 102) 185 = .ok (.if_icmp .ge 7, 3) := by decide +kernel
theorem bd_102_188 : decode (bn_b 102) 188 = .ok (.iconst 1, 1) := by decide +kernel
theorem bd_102_189 : decode (bn_b 102) 189 = .ok (.goto 4, 3) := by decide +kernel
theorem bd_102_192 : decode (bn_b 102) 192 = .ok (.iconst 0, 1) := by decide +kernel
theorem bd_102_193 : decode (bn_b 102) 193 = .ok (.iadd, 1) := by decide +kernel
theorem bd_102_194 : decode (bn_b 102) 194 = .ok (.iastore, 1) := by decide +kernel
theorem bd_102_195 : decode (bn_b 102) 195 = .ok (.aload_n 0, 1) := by decide +kernel
theorem bd_102_196 : decode (bn_b 102) 196 = .ok (.getfield 13, 3) := by decide +kernel
theorem bd_102_199 : decode (bn_b 102) 199 = .ok (.iload_n 3, 1) := by decide +kernel
theorem bd_102_200 : decode (bn_b 102) 200 = .ok (.iconst 1, 1) := by decide +kernel
theorem bd_102_201 : decode (bn_b 102) 201 = .ok (.iadd, 1) := by decide +kernel
theorem bd_102_202 : decode (bn_b 102) 202 = .ok (.aload_n 0, 1) := by decide +kernel
theorem bd_102_203 : decode (bn_b 102) 203 = .ok (.getfield 13, 3) := by decide +kernel
theorem bd_102_206 : decode (bn_b 102) 206 = .ok (.iload_n 3, 1) := by decide +kernel
theorem bd_102_207 : decode (bn_b 102) 207 = .ok (.iconst 1, 1) := by decide +kernel
theorem bd_102_208 : decode (bn_b 102) 208 = .ok (.iadd, 1) := by decide +kernel
theorem bd_102_209 : decode (bn_b 102) 209 = .ok (.iaload, 1) := by decide +kernel
theorem bd_102_210 : decode (bn_b 102) 210 = .ok (.bipush 10, 2) := by decide +kernel
theorem bd_102_212 : decode (bn_b 102) 212 = .ok (.if_icmp .ge 24, 3) := by decide +kernel
theorem bd_102_215 : decode (bn_b 102) 215 = .ok (.iload_n 1, 1) := by decide +kernel
theorem bd_102_216 : decode (bn_b 102) 216 = .ok (.aload_n 0, 1) := by decide +kernel
theorem bd_102_217 : decode (bn_b 102) 217 = .ok (.getfield 13, 3) := by decide +kernel
theorem bd_102_220 : decode (bn_b 102) 220 = .ok (.iload_n 3, 1) := by decide +kernel
theorem bd_102_221 : decode (bn_b 102) 221 = .ok (.iconst 1, 1) := by decide +kernel
theorem bd_102_222 : decode (bn_b 102) 222 = .ok (.iadd, 1) := by decide +kernel
theorem bd_102_223 : decode (bn_b 102) 223 = .ok (.iaload, 1) := by decide +kernel
theorem bd_102_224 : decode (bn_b 102) 224 = .ok (.ishr, 1) := by decide +kernel
theorem bd_102_225 : decode (bn_b 102) 225 = .ok (.iconst 1, 1) := by decide +kernel
theorem bd_102_226 : decode (bn_b 102) 226 = .ok (.iand, 1) := by decide +kernel
theorem bd_102_227 : decode (bn_b 102) 227 = .ok (.iconst 1, 1) := by decide +kernel
theorem bd_102_228 : decode (bn_b 102) 228 = .ok (.if_icmp .ne 8, 3) := by decide +kernel
theorem bd_102_231 : decode (bn_b 102) 231 = .ok (.bipush 10, 2) := by decide +kernel
theorem bd_102_233 : decode (bn_b 102) 233 = .ok (.goto 11, 3) := by decide +kernel
theorem bd_102_236 : decode (bn_b 102) 236 = .ok (.aload_n 0, 1) := by decide +kernel
theorem bd_102_237 : decode (bn_b 102) 237 = .ok (.getfield 13, 3) := by decide +kernel
theorem bd_102_240 : decode (bn_b 102) 240 = .ok (.iload_n 3, 1) := by decide +kernel
theorem bd_102_241 : decode (bn_b 102) 241 = .ok (.iconst 1, 1) := by decide +kernel
theorem bd_102_242 : decode (bn_b 102) 242 = .ok (.iadd, 1) := by decide +kernel
theorem bd_102_243 : decode (bn_b 102) 243 = .ok (.iaload, 1) := by decide +kernel
theorem bd_102_244 : decode (bn_b 102) 244 = .ok (.iastore, 1) := by decide +kernel
theorem bd_102_245 : decode (bn_b 102) 245 = .ok (.iinc 2 1, 3) := by decide +kernel
theorem bd_102_248 : decode (bn_b 102) 248 = .ok (.goto (-110), 3) := by decide +kernel
theorem bd_102_251 : decode (bn_b 102) 251 = .ok (.aload_n 0, 1) := by decide +kernel
theorem bd_102_252 : decode (bn_b 102) 252 = .ok (.getfield 13, 3) := by decide +kernel
theorem bd_102_255 : decode (bn_b 102) 255 = .ok (.bipush 70, 2) := by decide +kernel
theorem bd_102_257 : decode (bn_b 102) 257 = .ok (.dup2, 1) := by decide +kernel
theorem bd_102_258 : decode (bn_b 102) 258 = .ok (.iaload, 1) := by decide +kernel
theorem bd_102_259 : decode (bn_b 102) 259 = .ok (.iconst 1, 1) := by decide +kernel
theorem bd_102_260 : decode (bn_b 102) 260 = .ok (.iadd, 1) := by decide +kernel
theorem bd_102_261 : decode (bn_b 102) 261 = .ok (.iastore, 1) := by decide +kernel
theorem bd_102_262 : decode (bn_b 102) 262 = .ok (.iload_n 1, 1) := by decide +kernel
theorem bd_102_263 : decode (bn_b 102) 263 = .ok (.ireturn, 1) := by decide +kernel
theorem bd_103_0 : decode (bn_b 103) 0 = .ok (.aload_n 0, 1) := by decide +kernel
theorem bd_103_1 : decode (bn_b 103) 1 = .ok (.invokevirtual 145, 3) := by decide +kernel
theorem bd_103_4 : decode (bn_b 103) 4 = .ok (.aload_n 0, 1) := by decide +kernel
theorem bd_103_5 : decode (bn_b 103) 5 = .ok (.invokevirtual 155, 3) := by decide +kernel
theorem bd_103_8 : decode (bn_b 103) 8 = .ok (.ireturn, 1) := by decide +kernel
theorem bd_104_0 : decode (bn_b 104) 0 = .ok (.iconst 0, 1) := by decide +kernel
theorem bd_104_1 : decode (bn_b 104) 1 = .ok (.istore_n 1, 1) := by decide +kernel
theorem bd_104_2 : decode (bn_b 104) 2 = .ok (.iconst 0, 1) := by decide +kernel
theorem bd_104_3 : decode (bn_b 104) 3 = .ok (.istore_n 2, 1) := by decide +kernel
theorem bd_104_4 : decode (bn_b 104) 4 = .ok (.iload_n 2, 1) := by decide +kernel
theorem bd_104_5 : decode (bn_b 104) 5 = .ok (.aload_n 0, 1) := by decide +kernel
theorem bd_104_6 : decode (bn_b 104) 6 = .ok (.getfield 106, 3) := by decide +kernel
theorem bd_104_9 : decode (bn_b 104) 9 = .ok (.if_icmp .ge 24, 3) := by decide +kernel
theorem bd_104_12 : decode (bn_b 104) 12 = .ok (.iload_n 1, 1) := by decide +kernel
theorem bd_104_13 : decode (bn_b 104) 13 = .ok (.aload_n 0, 1) := by decide +kernel
theorem bd_104_14 : decode (bn_b 104) 14 = .ok (.getfield 13, 3) := by decide +kernel
theorem bd_104_17 : decode (bn_b 104) 17 = .ok (.iconst 4, 1) := by decide +kernel
theorem bd_104_18 : decode (bn_b 104) 18 = .ok (.iload_n 2, 1) := by decide +kernel
theorem bd_104_19 : decode (bn_b 104) 19 = .ok (.imul, 1) := by decide +kernel
theorem bd_104_20 : decode (bn_b 104) 20 = .ok (.iconst 1, 1) := by decide +kernel
theorem bd_104_21 : decode (bn_b 104) 21 = .ok (.iadd, 1) := by decide +kernel
theorem bd_104_22 : decode (bn_b 104) 22 = .ok (.iaload, 1) := by decide +kernel
theorem bd_104_23 : decode (bn_b 104) 23 = .ok (.iload_n 2, 1) := by decide +kernel
theorem bd_104_24 : decode (bn_b 104) 24 = .ok (.ishl, 1) := by decide +kernel
theorem bd_104_25 : decode (bn_b 104) 25 = .ok (.ior, 1) := by decide +kernel
theorem bd_104_26 : decode (bn_b 104) 26 = .ok (.istore_n 1, 1) := by decide +kernel
theorem bd_104_27 : decode (bn_b 104) 27 = .ok (.iinc 2 1, 3) := by decide +kernel
theorem bd_104_30 : decode (bn_b 104) 30 = .ok (.goto (-26), 3) := by decide +kernel
theorem bd_104_33 : decode (bn_b 104) 33 = .ok (.iload_n 1, 1) := by decide +kernel
theorem bd_104_34 : decode (bn_b 104) 34 = .ok (.ireturn, 1) := by decide +kernel
theorem bd_105_0 : decode (bn_b 105) 0 = .ok (.iconst 0, 1) := by decide +kernel
theorem bd_105_1 : decode (bn_b 105) 1 = .ok (.istore_n 1, 1) := by decide +kernel
theorem bd_105_2 : decode (bn_b 105) 2 = .ok (.iconst 0, 1) := by decide +kernel
theorem bd_105_3 : decode (bn_b 105) 3 = .ok (.istore_n 2, 1) := by decide +kernel
theorem bd_105_4 : decode (bn_b 105) 4 = .ok (.iload_n 2, 1) := by decide +kernel
theorem bd_105_5 : decode (bn_b 105) 5 = .ok (.bipush 10, 2) := by decide +kernel
theorem bd_105_7 : decode (bn_b 105) 7 = .ok (.if_icmp .ge 17, 3) := by decide +kernel
theorem bd_105_10 : decode (bn_b 105) 10 = .ok (.iload_n 1, 1) := by decide +kernel
theorem bd_105_11 : decode (bn_b 105) 11 = .ok (.iload_n 0, 1) := by decide +kernel
theorem bd_105_12 : decode (bn_b 105) 12 = .ok (.iload_n 2, 1) := by decide +kernel
theorem bd_105_13 : decode (bn_b 105) 13 = .ok (.ishr, 1) := by decide +kernel
theorem bd_105_14 : decode (bn_b 105) 14 = .ok (.iconst 1, 1) := by decide +kernel
theorem bd_105_15 : decode (bn_b 105) 15 = .ok (.iand, 1) := by decide +kernel
theorem bd_105_16 : decode (bn_b 105) 16 = .ok (.iadd, 1) := by decide +kernel
theorem bd_105_17 : decode (bn_b 105) 17 = .ok (.istore_n 1, 1) := by decide +kernel
theorem bd_105_18 : decode (bn_b 105) 18 = .ok (.iinc 2 1, 3) := by decide +kernel
theorem bd_105_21 : decode (bn_b 105) 21 = .ok (.goto (-17), 3) := by decide +kernel
theorem bd_105_24 : decode (bn_b 105) 24 = .ok (.iload_n 1, 1) := by decide +kernel
theorem bd_105_25 : decode (bn_b 105) 25 = .ok (.ireturn, 1) := by decide +kernel
theorem bd_106_0 : decode (bn_b 106) 0 = .ok (.iconst 0, 1) := by decide +kernel
theorem bd_106_1 : decode (bn_b 106) 1 = .ok (.istore_n 2, 1) := by decide +kernel
theorem bd_106_2 : decode (bn_b 106) 2 = .ok (.iload_n 1, 1) := by decide +kernel
theorem bd_106_3 : decode (bn_b 106) 3 = .ok (.istore_n 3, 1) := by decide +kernel
theorem bd_106_4 : decode (bn_b 106) 4 = .ok (.iload_n 3, 1) := by decide +kernel
theorem bd_106_5 : decode (bn_b 106) 5 = .ok (.ifCond .gt 11, 3) := by decide +kernel
theorem bd_106_8 : decode (bn_b 106) 8 = .ok (.iload_n 0, 1) := by decide +kernel
theorem bd_106_9 : decode (bn_b 106) 9 = .ok (.iload_n 2, 1) := by decide +kernel
theorem bd_106_10 : decode (bn_b 106) 10 = .ok (.ishr, 1) := by decide +kernel
theorem bd_106_11 : decode (bn_b 106) 11 = .ok (.iconst 1, 1) := by decide +kernel
theorem bd_106_12 : decode (bn_b 106) 12 = .ok (.iand, 1) := by decide +kernel
theorem bd_106_13 : decode (bn_b 106) 13 = .ok (.ifCond .ne 17, 3) := by decide +kernel
theorem bd_106_16 : decode (bn_b 106) 16 = .ok (.iload_n 3, 1) := by decide +kernel
theorem bd_106_17 : decode (bn_b 106) 17 = .ok (.iload_n 0, 1) := by decide +kernel
theorem bd_106_18 : decode (bn_b 106) 18 = .ok (.iload_n 2, 1) := by decide +kernel
theorem bd_106_19 : decode (bn_b 106) 19 = .ok (.ishr, 1) := by decide +kernel
theorem bd_106_20 : decode (bn_b 106) 20 = .ok (.iconst 1, 1) := by decide +kernel
theorem bd_106_21 : decode (bn_b 106) 21 = .ok (.iand, 1) := by decide +kernel
theorem bd_106_22 : decode (bn_b 106) 22 = .ok (.isub, 1) := by decide +kernel
theorem bd_106_23 : decode (bn_b 106) 23 = .ok (.istore_n 3, 1) := by decide +kernel
theorem bd_106_24 : decode (bn_b 106) 24 = .ok (.iinc 2 1, 3) := by decide +kernel
theorem bd_106_27 : decode (bn_b 106) 27 = .ok (.goto (-23), 3) := by decide +kernel
theorem bd_106_30 : decode (bn_b 106) 30 = .ok (.iload_n 2, 1) := by decide +kernel
theorem bd_106_31 : decode (bn_b 106) 31 = .ok (.ireturn, 1) := by decide +kernel
theorem bd_107_0 : decode (bn_b 107) 0 = .ok (.aload_n 0, 1) := by decide +kernel
theorem bd_107_1 : decode (bn_b 107) 1 = .ok (.invokevirtual 158, 3) := by decide +kernel
theorem bd_107_4 : decode (bn_b 107) 4 = .ok (.istore_n 1, 1) := by decide +kernel
theorem bd_107_5 : decode (bn_b 107) 5 = .ok (.iload_n 1, 1) := by decide +kernel
theorem bd_107_6 : decode (bn_b 107) 6 = .ok (.ifCond .ne 6, 3) := by decide +kernel
theorem bd_107_9 : decode (bn_b 107) 9 = .ok (.bipush (-9), 2) := by decide +kernel
theorem bd_107_11 : decode (bn_b 107) 11 = .ok (.ireturn, 1) := by decide +kernel
theorem bd_107_12 : decode (bn_b 107) 12 = .ok (.aload_n 0, 1) := by decide +kernel
theorem bd_107_13 : decode (bn_b 107) 13 = .ok (.invokevirtual 145, 3) := by decide +kernel
theorem bd_107_16 : decode (bn_b 107) 16 = .ok (.aload_n 0, 1) := by decide +kernel
theorem bd_107_17 : decode (bn_b 107) 17 = .ok (.aload_n 0, 1) := by decide +kernel
theorem bd_107_18 : decode (bn_b 107) 18 = .ok (.getfield 134, 3) := by decide +kernel
theorem bd_107_21 : decode (bn_b 107) 21 = .ok (.ldc2_w 161, 3) := by decide +kernel
theorem bd_107_24 : decode (bn_b 107) 24 = .ok (.lmul, 1) := by decide +kernel
theorem bd_107_25 : decode (bn_b 107) 25 = .ok (.ldc2_w 163, 3) := by decide +kernel
theorem bd_107_28 : decode (bn_b 107) 28 = .ok (.ladd, 1) := by decide +kernel
theorem bd_107_29 : decode (bn_b 107) 29 = .ok (.putfield 134, 3) := by decide +kernel
theorem bd_107_32 : decode (bn_b 107) 32 = .ok (.aload_n 0, 1) := by decide +kernel
theorem bd_107_33 : decode (bn_b 107) 33 = .ok (.getfield 134, 3) := by decide +kernel
theorem bd_107_36 : decode (bn_b 107) 36 = .ok (.bipush 33, 2) := by decide +kernel
theorem bd_107_38 : decode (bn_b 107) 38 = .ok (.lushr, 1) := by decide +kernel
theorem bd_107_39 : decode (bn_b 107) 39 = .ok (.l2i, 1) := by decide +kernel
theorem bd_107_40 : decode (bn_b 107) 40 = .ok (.istore_n 2, 1) := by decide +kernel
theorem bd_107_41 : decode (bn_b 107) 41 = .ok (.iload_n 1, 1) := by decide +kernel
theorem bd_107_42 : decode (bn_b 107) 42 = .ok (.iload_n 2, 1) := by decide +kernel
theorem bd_107_43 : decode (bn_b 107) 43 = .ok (.iload_n 1, 1) := by decide +kernel
theorem bd_107_44 : decode (bn_b 107) 44 = .ok (.invokestatic 165, 3) := by decide +kernel
theorem bd_107_47 : decode (bn_b 107) 47 = .ok (.irem, 1) := by decide +kernel
theorem bd_107_48 : decode (bn_b 107) 48 = .ok (.invokestatic 168, 3) := by decide +kernel
theorem bd_107_51 : decode (bn_b 107) 51 = .ok (.istore_n 3, 1) := by decide +kernel
theorem bd_107_52 : decode (bn_b 107) 52 = .ok (.iconst 0, 1) := by decide +kernel
theorem bd_107_53 : decode (bn_b 107) 53 = .ok (.istore 4, 2) := by decide +kernel
theorem bd_107_55 : decode (bn_b 107) 55 = .ok (.iconst 0, 1) := by decide +kernel
theorem bd_107_56 : decode (bn_b 107) 56 = .ok (.istore 5, 2) := by decide +kernel
theorem bd_107_58 : decode (bn_b 107) 58 = .ok (.iload 5, 2) := by decide +kernel
theorem bd_107_60 : decode (bn_b 107) 60 = .ok (.aload_n 0, 1) := by decide +kernel
theorem bd_107_61 : decode (bn_b 107) 61 = .ok (.getfield 109, 3) := by decide +kernel
theorem bd_107_64 : decode (bn_b 107) 64 = .ok (.if_icmp .ge 43, 3) := by decide +kernel
theorem bd_107_67 : decode (bn_b 107) 67 = .ok (.iload 4, 2) := by decide +kernel
theorem bd_107_69 : decode (bn_b 107) 69 = .ok (.aload_n 0, 1) := by decide +kernel
theorem bd_107_70 : decode (bn_b 107) 70 = .ok (.iload 5, 2) := by decide +kernel
theorem bd_107_72 : decode (bn_b 107) 72 = .ok (.invokevirtual 115, 3) := by decide +kernel
theorem bd_107_75 : decode (bn_b 107) 75 = .ok (.bipush 10, 2) := by decide +kernel
theorem bd_107_77 : decode (bn_b 107) 77 = .ok (.if_icmp .ge 20, 3) := by decide +kernel
theorem bd_107_80 : decode (bn_b 107) 80 = .ok (.aload_n 0, 1) := by decide +kernel
theorem bd_107_81 : decode (bn_b 107) 81 = .ok (.iload 5, 2) := by decide +kernel
theorem bd_107_83 : decode (bn_b 107) 83 = .ok (.invokevirtual 115, 3) := by decide +kernel
theorem bd_107_86 : decode (bn_b 107) 86 = .ok (.iload_n 3, 1) := by decide +kernel
theorem bd_107_87 : decode (bn_b 107) 87 = .ok (.if_icmp .eq 10, 3) := by decide +kernel
theorem bd_107_90 : decode (bn_b 107) 90 = .ok (.iconst 1, 1) := by decide +kernel
theorem bd_107_91 : decode (bn_b 107) 91 = .ok (.iload 5, 2) := by decide +kernel
theorem bd_107_93 : decode (bn_b 107) 93 = .ok (.ishl, 1) := by decide +kernel
theorem bd_107_94 : decode (bn_b 107) 94 = .ok (.goto 4, 3) := by decide +kernel
theorem bd_107_97 : decode (bn_b 107) 97 = .ok (.iconst 0, 1) := by decide +kernel
theorem bd_107_98 : decode (bn_b 107) 98 = .ok (.ior, 1) := by decide +kernel
theorem bd_107_99 : decode (bn_b 107) 99 = .ok (.istore 4, 2) := by decide +kernel
theorem bd_107_101 : decode (bn_b 107) 101 = .ok (.iinc 5 1, 3) := by decide +kernel
theorem bd_107_104 : decode (bn_b 107) 104 = .ok (.goto (-46), 3) := by decide +kernel
theorem bd_107_107 : decode (bn_b 107) 107 = .ok (.iload 4, 2) := by decide +kernel
theorem bd_107_109 : decode (bn_b 107) 109 = .ok (.ifCond .ne 6, 3) := by decide +kernel
theorem bd_107_112 : decode (bn_b 107) 112 = .ok (.bipush (-9), 2) := by decide +kernel
theorem bd_107_114 : decode (bn_b 107) 114 = .ok (.ireturn, 1) := by decide +kernel
theorem bd_107_115 : decode (bn_b 107) 115 = .ok (.iload 4, 2) := by decide +kernel
theorem bd_107_117 : decode (bn_b 107) 117 = .ok (.iload_n 2, 1) := by decide +kernel
theorem bd_107_118 : decode (bn_b 107) 118 = .ok (.iload_n 1, 1) := by decide +kernel
theorem bd_107_119 : decode (bn_b 107) 119 = .ok (.invokestatic 165, 3) := by decide +kernel
theorem bd_107_122 : decode (bn_b 107) 122 = .ok (.idiv, 1) := by decide +kernel
theorem bd_107_123 : decode (bn_b 107) 123 = .ok (.iload 4, 2) := by decide +kernel
theorem bd_107_125 : decode (bn_b 107) 125 = .ok (.invokestatic 165, 3) := by decide +kernel
theorem bd_107_128 : decode (bn_b 107) 128 = .ok (.irem, 1) := by decide +kernel
theorem bd_107_129 : decode (bn_b 107) 129 = .ok (.invokestatic 168, 3) := by decide +kernel
theorem bd_107_132 : decode (bn_b 107) 132 = .ok (.istore 5, 2) := by decide +kernel
theorem bd_107_134 : decode (bn_b 107) 134 = .ok (.aload_n 0, 1) := by decide +kernel
theorem bd_107_135 : decode (bn_b 107) 135 = .ok (.getfield 13, 3) := by decide +kernel
theorem bd_107_138 : decode (bn_b 107) 138 = .ok (.bipush 21, 2) := by decide +kernel
theorem bd_107_140 : decode (bn_b 107) 140 = .ok (.iconst 5, 1) := by decide +kernel
theorem bd_107_141 : decode (bn_b 107) 141 = .ok (.iload 5, 2) := by decide +kernel
theorem bd_107_143 : decode (bn_b 107) 143 = .ok (.imul, 1) := by decide +kernel
theorem bd_107_144 : decode (bn_b 107) 144 = .ok (.iadd, 1) := by decide +kernel
theorem bd_107_145 : decode (bn_b 107) 145 = .ok (.iload_n 3, 1) := by decide +kernel
theorem bd_107_146 : decode (bn_b 107) 146 = .ok (.iastore, 1) := by decide +kernel
theorem bd_107_147 : decode (bn_b 107) 147 = .ok (.bipush 10, 2) := by decide +kernel
theorem bd_107_149 : decode (bn_b 107) 149 = .ok (.iload_n 3, 1) := by decide +kernel
theorem bd_107_150 : decode (bn_b 107) 150 = .ok (.imul, 1) := by decide +kernel
theorem bd_107_151 : decode (bn_b 107) 151 = .ok (.iload 5, 2) := by decide +kernel
theorem bd_107_153 : decode (bn_b 107) 153 = .ok (.iadd, 1) := by decide +kernel
theorem bd_107_154 : decode (bn_b 107) 154 = .ok (.ireturn, 1) := by decide +kernel
theorem bd_108_0 : decode (bn_b 108) 0 = .ok (.aload_n 0, 1) := by decide +kernel
theorem bd_108_1 : decode (bn_b 108) 1 = .ok (.getfield 112, 3) := by decide +kernel
theorem bd_108_4 : decode (bn_b 108) 4 = .ok (.ifCond .ne 6, 3) := by decide +kernel
theorem bd_108_7 : decode (bn_b 108) 7 = .ok (.bipush (-3), 2) := by decide +kernel
theorem bd_108_9 : decode (bn_b 108) 9 = .ok (.ireturn, 1) := by decide +kernel
theorem bd_108_10 : decode (bn_b 108) 10 = .ok (.aload_n 0, 1) := by decide +kernel
theorem bd_108_11 : decode (bn_b 108) 11 = .ok (.dup, 1) := by decide +kernel
theorem bd_108_12 : decode (bn_b 108) 12 = .ok (.getfield 112, 3) := by decide +kernel
theorem bd_108_15 : decode (bn_b 108) 15 = .ok (.iconst 1, 1) := by decide +kernel
theorem bd_108_16 : decode (bn_b 108) 16 = .ok (.isub, 1) := by decide +kernel
theorem bd_108_17 : decode (bn_b 108) 17 = .ok (.putfield 112, 3) := by decide +kernel
theorem bd_108_20 : decode (bn_b 108) 20 = .ok (.aload_n 0, 1) := by decide +kernel
theorem bd_108_21 : decode (bn_b 108) 21 = .ok (.aload_n 0, 1) := by decide +kernel
theorem bd_108_22 : decode (bn_b 108) 22 = .ok (.getfield 131, 3) := by decide +kernel
theorem bd_108_25 : decode (bn_b 108) 25 = .ok (.bipush 19, 2) := by decide +kernel
theorem bd_108_27 : decode (bn_b 108) 27 = .ok (.iadd, 1) := by decide +kernel
theorem bd_108_28 : decode (bn_b 108) 28 = .ok (.bipush 20, 2) := by decide +kernel
theorem bd_108_30 : decode (bn_b 108) 30 = .ok (.irem, 1) := by decide +kernel
theorem bd_108_31 : decode (bn_b 108) 31 = .ok (.putfield 131, 3) := by decide +kernel
theorem bd_108_34 : decode (bn_b 108) 34 = .ok (.iconst 0, 1) := by decide +kernel
theorem bd_108_35 : decode (bn_b 108) 35 = .ok (.istore_n 1, 1) := by decide +kernel
theorem bd_108_36 : decode (bn_b 108) 36 = .ok (.iload_n 1, 1) := by decide +kernel
theorem bd_108_37 : decode (bn_b 108) 37 = .ok (.bipush 71, 2) := by decide +kernel
theorem bd_108_39 : decode (bn_b 108) 39 = .ok (.if_icmp .ge 29, 3) := by decide +kernel
theorem bd_108_42 : decode (bn_b 108) 42 = .ok (.aload_n 0, 1) := by decide +kernel
theorem bd_108_43 : decode (bn_b 108) 43 = .ok (.getfield 13, 3) := by decide +kernel
theorem bd_108_46 : decode (bn_b 108) 46 = .ok (.iload_n 1, 1) := by decide +kernel
theorem bd_108_47 : decode (bn_b 108) 47 = .ok (.aload_n 0, 1) := by decide +kernel
theorem bd_108_48 : decode (bn_b 108) 48 = .ok (.getfield 19, 3) := by decide +kernel
theorem bd_108_51 : decode (bn_b 108) 51 = .ok (.bipush 72, 2) := by decide +kernel
theorem bd_108_53 : decode (bn_b 108) 53 = .ok (.aload_n 0, 1) := by decide +kernel
theorem bd_108_54 : decode (bn_b 108) 54 = .ok (.getfield 131, 3) := by decide +kernel
theorem bd_108_57 : decode (bn_b 108) 57 = .ok (.imul, 1) := by decide +kernel
theorem bd_108_58 : decode (bn_b 108) 58 = .ok (.iload_n 1, 1) := by decide +kernel
theorem bd_108_59 : decode (bn_b 108) 59 = .ok (.iadd, 1) := by decide +kernel
theorem bd_108_60 : decode (bn_b 108) 60 = .ok (.iaload, 1) := by decide +kernel
theorem bd_108_61 : decode (bn_b 108) 61 = .ok (.iastore, 1) := by decide +kernel
theorem bd_108_62 : decode (bn_b 108) 62 = .ok (.iinc 1 1, 3) := by decide +kernel
theorem bd_108_65 : decode (bn_b 108) 65 = .ok (.goto (-29), 3) := by decide +kernel
theorem bd_108_68 : decode (bn_b 108) 68 = .ok (.aload_n 0, 1) := by decide +kernel
theorem bd_108_69 : decode (bn_b 108) 69 = .ok (.aload_n 0, 1) := by decide +kernel
theorem bd_108_70 : decode (bn_b 108) 70 = .ok (.getfield 22, 3) := by decide +kernel
theorem bd_108_73 : decode (bn_b 108) 73 = .ok (.aload_n 0, 1) := by decide +kernel
theorem bd_108_74 : decode (bn_b 108) 74 = .ok (.getfield 131, 3) := by decide +kernel
theorem bd_108_77 : decode (bn_b 108) 77 = .ok (.laload, 1) := by decide +kernel
theorem bd_108_78 : decode (bn_b 108) 78 = .ok (.putfield 134, 3) := by decide +kernel
theorem bd_108_81 : decode (bn_b 108) 81 = .ok (.aload_n 0, 1) := by decide +kernel
theorem bd_108_82 : decode (bn_b 108) 82 = .ok (.getfield 112, 3) := by decide +kernel
theorem bd_108_85 : decode (bn_b 108) 85 = .ok (.ireturn, 1) := by decide +kernel
theorem bd_109_0 : decode (bn_b 109) 0 = .ok (.aload_n 0, 1) := by decide +kernel
theorem bd_109_1 : decode (bn_b 109) 1 = .ok (.getfield 134, 3) := by decide +kernel
theorem bd_109_4 : decode (bn_b 109) 4 = .ok (.lstore_n 3, 1) := by decide +kernel
theorem bd_109_5 : decode (bn_b 109) 5 = .ok (.aload_n 0, 1) := by decide +kernel
theorem bd_109_6 : decode (bn_b 109) 6 = .ok (.lload_n 1, 1) := by decide +kernel
theorem bd_109_7 : decode (bn_b 109) 7 = .ok (.putfield 134, 3) := by decide +kernel
theorem bd_109_10 : decode (bn_b 109) 10 = .ok (.lload_n 3, 1) := by decide +kernel
theorem bd_109_11 : decode (bn_b 109) 11 = .ok (.lreturn, 1) := by decide +kernel
theorem bd_110_0 : decode (bn_b 110) 0 = .ok (.bipush (-9), 2) := by decide +kernel
theorem bd_110_2 : decode (bn_b 110) 2 = .ok (.istore_n 2, 1) := by decide +kernel
theorem bd_110_3 : decode (bn_b 110) 3 = .ok (.iconst 0, 1) := by decide +kernel
theorem bd_110_4 : decode (bn_b 110) 4 = .ok (.istore_n 3, 1) := by decide +kernel
theorem bd_110_5 : decode (bn_b 110) 5 = .ok (.iload_n 3, 1) := by decide +kernel
theorem bd_110_6 : decode (bn_b 110) 6 = .ok (.aload_n 0, 1) := by decide +kernel
theorem bd_110_7 : decode (bn_b 110) 7 = .ok (.getfield 109, 3) := by decide +kernel
theorem bd_110_10 : decode (bn_b 110) 10 = .ok (.if_icmp .ge 43, 3) := by decide +kernel
theorem bd_110_13 : decode (bn_b 110) 13 = .ok (.aload_n 0, 1) := by decide +kernel
theorem bd_110_14 : decode (bn_b 110) 14 = .ok (.iload_n 1, 1) := by decide +kernel
theorem bd_110_15 : decode (bn_b 110) 15 = .ok (.iload_n 3, 1) := by decide +kernel
theorem bd_110_16 : decode (bn_b 110) 16 = .ok (.invokevirtual 141, 3) := by decide +kernel
theorem bd_110_19 : decode (bn_b 110) 19 = .ok (.ifCond .eq 26, 3) := by decide +kernel
theorem bd_110_22 : decode (bn_b 110) 22 = .ok (.iload_n 2, 1) := by decide +kernel
theorem bd_110_23 : decode (bn_b 110) 23 = .ok (.bipush (-9), 2) := by decide +kernel
theorem bd_110_25 : decode (bn_b 110) 25 = .ok (.if_icmp .eq 16, 3) := by decide +kernel
theorem bd_110_28 : decode (bn_b 110) 28 = .ok (.aload_n 0, 1) := by decide +kernel
theorem bd_110_29 : decode (bn_b 110) 29 = .ok (.iload_n 3, 1) := by decide +kernel
theorem bd_110_30 : decode (bn_b 110) 30 = .ok (.invokevirtual 138, 3) := by decide +kernel
theorem bd_110_33 : decode (bn_b 110) 33 = .ok (.aload_n 0, 1) := by decide +kernel
theorem bd_110_34 : decode (bn_b 110) 34 = .ok (.iload_n 2, 1) := by decide +kernel
theorem bd_110_35 : decode (bn_b 110) 35 = .ok (.invokevirtual 138, 3) := by decide +kernel
theorem bd_110_38 : decode (bn_b 110) 38 = .ok (.if_icmp .ge 7, 3) := by decide +kernel
theorem bd_110_41 : decode (bn_b 110) 41 = .ok (.iload_n 3, 1) := by decide +kernel
theorem bd_110_42 : decode (bn_b 110) 42 = .ok (.goto 4, 3) := by decide +kernel
theorem bd_110_45 : decode (bn_b 110) 45 = .ok (.iload_n 2, 1) := by decide +kernel
theorem bd_110_46 : decode (bn_b 110) 46 = .ok (.istore_n 2, 1) := by decide +kernel
theorem bd_110_47 : decode (bn_b 110) 47 = .ok (.iinc 3 1, 3) := by decide +kernel
theorem bd_110_50 : decode (bn_b 110) 50 = .ok (.goto (-45), 3) := by decide +kernel
theorem bd_110_53 : decode (bn_b 110) 53 = .ok (.iload_n 2, 1) := by decide +kernel
theorem bd_110_54 : decode (bn_b 110) 54 = .ok (.ireturn, 1) := by decide +kernel
theorem bd_111_0 : decode (bn_b 111) 0 = .ok (.aload_n 0, 1) := by decide +kernel
theorem bd_111_1 : decode (bn_b 111) 1 = .ok (.bipush (-9), 2) := by decide +kernel
theorem bd_111_3 : decode (bn_b 111) 3 = .ok (.putfield 172, 3) := by decide +kernel
theorem bd_111_6 : decode (bn_b 111) 6 = .ok (.aload_n 0, 1) := by decide +kernel
theorem bd_111_7 : decode (bn_b 111) 7 = .ok (.invokevirtual 158, 3) := by decide +kernel
theorem bd_111_10 : decode (bn_b 111) 10 = .ok (.ifCond .ne 5, 3) := by decide +kernel
theorem bd_111_13 : decode (bn_b 111) 13 = .ok (.iconst 0, 1) := by decide +kernel
theorem bd_111_14 : decode (bn_b 111) 14 = .ok (.ireturn, 1) := by decide +kernel
theorem bd_111_15 : decode (bn_b 111) 15 = .ok (.iconst 0, 1) := by decide +kernel
theorem bd_111_16 : decode (bn_b 111) 16 = .ok (.istore_n 1, 1) := by decide +kernel
theorem bd_111_17 : decode (bn_b 111) 17 = .ok (.iload_n 1, 1) := by decide +kernel
theorem bd_111_18 : decode (bn_b 111) 18 = .ok (.bipush 71, 2) := by decide +kernel
theorem bd_111_20 : decode (bn_b 111) 20 = .ok (.if_icmp .ge 21, 3) := by decide +kernel
theorem bd_111_23 : decode (bn_b 111) 23 = .ok (.aload_n 0, 1) := by decide +kernel
theorem bd_111_24 : decode (bn_b 111) 24 = .ok (.getfield 26, 3) := by decide +kernel
theorem bd_111_27 : decode (bn_b 111) 27 = .ok (.iload_n 1, 1) := by decide +kernel
theorem bd_111_28 : decode (bn_b 111) 28 = .ok (.aload_n 0, 1) := by decide +kernel
theorem bd_111_29 : decode (bn_b 111) 29 = .ok (.getfield 13, 3) := by decide +kernel
theorem bd_111_32 : decode (bn_b 111) 32 = .ok (.iload_n 1, 1) := by decide +kernel
theorem bd_111_33 : decode (bn_b 111) 33 = .ok (.iaload, 1) := by decide +kernel
theorem bd_111_34 : decode (bn_b 111) 34 = .ok (.iastore, 1) := by decide +kernel
theorem bd_111_35 : decode (bn_b 111) 35 = .ok (.iinc 1 1, 3) := by decide +kernel
theorem bd_111_38 : decode (bn_b 111) 38 = .ok (.goto (-21), 3) := by decide +kernel
theorem bd_111_41 : decode (bn_b 111) 41 = .ok (.bipush (-9), 2) := by decide +kernel
theorem bd_111_43 : decode (bn_b 111) 43 = .ok (.istore_n 1, 1) := by decide +kernel
theorem bd_111_44 : decode (bn_b 111) 44 = .ok (.iconst 1, 1) := by decide +kernel
theorem bd_111_45 : decode (bn_b 111) 45 = .ok (.istore_n 2, 1) := by decide +kernel
theorem bd_111_46 : decode (bn_b 111) 46 = .ok (.iload_n 2, 1) := by decide +kernel
theorem bd_111_47 : decode (bn_b 111) 47 = .ok (.sipush 200, 3) := by decide +kernel
theorem bd_111_50 : decode (bn_b 111) 50 = .ok (.if_icmp .gt 86, 3) := by decide +kernel
theorem bd_111_53 : decode (bn_b 111) 53 = .ok (.iload_n 1, 1) := by decide +kernel
theorem bd_111_54 : decode (bn_b 111) 54 = .ok (.bipush (-9), 2) := by decide +kernel
theorem bd_111_56 : decode (bn_b 111) 56 = .ok (.if_icmp .ne 80, 3) := by decide +kernel
theorem bd_111_59 : decode (bn_b 111) 59 = .ok (.iconst 0, 1) := by decide +kernel
theorem bd_111_60 : decode (bn_b 111) 60 = .ok (.istore_n 3, 1) := by decide +kernel
theorem bd_111_61 : decode (bn_b 111) 61 = .ok (.iload_n 3, 1) := by decide +kernel
theorem bd_111_62 : decode (bn_b 111) 62 = .ok (.aload_n 0, 1) := by decide +kernel
theorem bd_111_63 : decode (bn_b 111) 63 = .ok (.getfield 106, 3) := by decide +kernel
theorem bd_111_66 : decode (bn_b 111) 66 = .ok (.if_icmp .ge 30, 3) := by decide +kernel
theorem bd_111_69 : decode (bn_b 111) 69 = .ok (.aload_n 0, 1) := by decide +kernel
theorem bd_111_70 : decode (bn_b 111) 70 = .ok (.iload_n 3, 1) := by decide +kernel
theorem bd_111_71 : decode (bn_b 111) 71 = .ok (.invokevirtual 175, 3) := by decide +kernel
theorem bd_111_74 : decode (bn_b 111) 74 = .ok (.istore 4, 2) := by decide +kernel
theorem bd_111_76 : decode (bn_b 111) 76 = .ok (.iload 4, 2) := by decide +kernel
theorem bd_111_78 : decode (bn_b 111) 78 = .ok (.bipush (-9), 2) := by decide +kernel
theorem bd_111_80 : decode (bn_b 111) 80 = .ok (.if_icmp .eq 10, 3) := by decide +kernel
theorem bd_111_83 : decode (bn_b 111) 83 = .ok (.aload_n 0, 1) := by decide +kernel
theorem bd_111_84 : decode (bn_b 111) 84 = .ok (.iload_n 3, 1) := by decide +kernel
theorem bd_111_85 : decode (bn_b 111) 85 = .ok (.iload 4, 2) := by decide +kernel
theorem bd_111_87 : decode (bn_b 111) 87 = .ok (.invokevirtual 148, 3) := by decide +kernel
theorem bd_111_90 : decode (bn_b 111) 90 = .ok (.iinc 3 1, 3) := by decide +kernel
theorem bd_111_93 : decode (bn_b 111) 93 = .ok (.goto (-32), 3) := by decide +kernel
theorem bd_111_96 : decode (bn_b 111) 96 = .ok (.aload_n 0, 1) := by decide +kernel
theorem bd_111_97 : decode (bn_b 111) 97 = .ok (.invokevirtual 155, 3) := by decide +kernel
theorem bd_111_100 : decode (bn_b 111) 100 = .ok (.istore_n 3, 1) := by decide +kernel
theorem bd_111_101 : decode (bn_b 111) 101 = .ok (.iload_n 3, 1) := by decide +kernel
theorem bd_111_102 : decode (bn_b 111) 102 = .ok (.ifCond .eq 7, 3) := by decide +kernel
theorem bd_111_105 : decode (bn_b 111) 105 = .ok (.iload_n 2, 1) := by decide +kernel
theorem bd_111_106 : decode (bn_b 111) 106 = .ok (.goto 5, 3) := by decide +kernel
theorem bd_111_109 : decode (bn_b 111) 109 = .ok (.bipush (-9), 2) := by decide +kernel
theorem bd_111_111 : decode (bn_b 111) 111 = .ok (.istore_n 1, 1) := by decide +kernel
theorem bd_111_112 : decode (bn_b 111) 112 = .ok (.aload_n 0, 1) := by decide +kernel
theorem bd_111_113 : decode (bn_b 111) 113 = .ok (.iload_n 3, 1) := by decide +kernel
theorem bd_111_114 : decode (bn_b 111) 114 = .ok (.ifCond .eq 11, 3) := by decide +kernel
theorem bd_111_117 : decode (bn_b 111) 117 = .ok (.iload_n 3, 1) := by decide +kernel
theorem bd_111_118 : decode (bn_b 111) 118 = .ok (.iconst 0, 1) := by decide +kernel
theorem bd_111_119 : decode (bn_b 111) 119 = .ok (.invokestatic 168, 3) := by decide +kernel
theorem bd_111_122 : decode (bn_b 111) 122 = .ok (.goto 5, 3) := by decide +kernel
theorem bd_111_125 : decode (bn_b 111) 125 = .ok (.bipush (-9), 2) := by decide +kernel
theorem bd_111_127 : decode (bn_b 111) 127 = .ok (.putfield 172, 3) := by decide +kernel
theorem bd_111_130 : decode (bn_b 111) 130 = .ok (.iinc 2 1, 3) := by decide +kernel
theorem bd_111_133 : decode (bn_b 111) 133 = .ok (.goto (-87), 3) := by decide +kernel
theorem bd_111_136 : decode (bn_b 111) 136 = .ok (.iconst 0, 1) := by decide +kernel
theorem bd_111_137 : decode (bn_b 111) 137 = .ok (.istore_n 2, 1) := by decide +kernel
theorem bd_111_138 : decode (bn_b 111) 138 = .ok (.iload_n 2, 1) := by decide +kernel
theorem bd_111_139 : decode (bn_b 111) 139 = .ok (.bipush 71, 2) := by decide +kernel
theorem bd_111_141 : decode (bn_b 111) 141 = .ok (.if_icmp .ge 21, 3) := by decide +kernel
theorem bd_111_144 : decode (bn_b 111) 144 = .ok (.aload_n 0, 1) := by decide +kernel
theorem bd_111_145 : decode (bn_b 111) 145 = .ok (.getfield 13, 3) := by decide +kernel
theorem bd_111_148 : decode (bn_b 111) 148 = .ok (.iload_n 2, 1) := by decide +kernel
theorem bd_111_149 : decode (bn_b 111) 149 = .ok (.aload_n 0, 1) := by decide +kernel
theorem bd_111_150 : decode (bn_b 111) 150 = .ok (.getfield 26, 3) := by decide +kernel
theorem bd_111_153 : decode (bn_b 111) 153 = .ok (.iload_n 2, 1) := by decide +kernel
theorem bd_111_154 : decode (bn_b 111) 154 = .ok (.iaload, 1) := by decide +kernel
theorem bd_111_155 : decode (bn_b 111) 155 = .ok (.iastore, 1) := by decide +kernel
theorem bd_111_156 : decode (bn_b 111) 156 = .ok (.iinc 2 1, 3) := by decide +kernel
theorem bd_111_159 : decode (bn_b 111) 159 = .ok (.goto (-21), 3) := by decide +kernel
theorem bd_111_162 : decode (bn_b 111) 162 = .ok (.iload_n 1, 1) := by decide +kernel
theorem bd_111_163 : decode (bn_b 111) 163 = .ok (.ireturn, 1) := by decide +kernel
theorem bd_112_0 : decode (bn_b 112) 0 = .ok (.aload_n 0, 1) := by decide +kernel
theorem bd_112_1 : decode (bn_b 112) 1 = .ok (.invokevirtual 178, 3) := by decide +kernel
theorem bd_112_4 : decode (bn_b 112) 4 = .ok (.ireturn, 1) := by decide +kernel
theorem bd_113_0 : decode (bn_b 113) 0 = .ok (.aload_n 0, 1) := by decide +kernel
theorem bd_113_1 : decode (bn_b 113) 1 = .ok (.invokevirtual 178, 3) := by decide +kernel
theorem bd_113_4 : decode (bn_b 113) 4 = .ok (.pop, 1) := by decide +kernel
theorem bd_113_5 : decode (bn_b 113) 5 = .ok (.aload_n 0, 1) := by decide +kernel
theorem bd_113_6 : decode (bn_b 113) 6 = .ok (.getfield 172, 3) := by decide +kernel
theorem bd_113_9 : decode (bn_b 113) 9 = .ok (.ireturn, 1) := by decide +kernel
theorem bd_114_0 : decode (bn_b 114) 0 = .ok (.iconst 0, 1) := by decide +kernel
theorem bd_114_1 : decode (bn_b 114) 1 = .ok (.istore_n 1, 1) := by decide +kernel
theorem bd_114_2 : decode (bn_b 114) 2 = .ok (.iconst 0, 1) := by decide +kernel
theorem bd_114_3 : decode (bn_b 114) 3 = .ok (.istore_n 2, 1) := by decide +kernel
theorem bd_114_4 : decode (bn_b 114) 4 = .ok (.iload_n 2, 1) := by decide +kernel
theorem bd_114_5 : decode (bn_b 114) 5 = .ok (.aload_n 0, 1) := by decide +kernel
theorem bd_114_6 : decode (bn_b 114) 6 = .ok (.getfield 109, 3) := by decide +kernel
theorem bd_114_9 : decode (bn_b 114) 9 = .ok (.if_icmp .ge 105, 3) := by decide +kernel
theorem bd_114_12 : decode (bn_b 114) 12 = .ok (.aload_n 0, 1) := by decide +kernel
theorem bd_114_13 : decode (bn_b 114) 13 = .ok (.iload_n 2, 1) := by decide +kernel
theorem bd_114_14 : decode (bn_b 114) 14 = .ok (.invokevirtual 115, 3) := by decide +kernel
theorem bd_114_17 : decode (bn_b 114) 17 = .ok (.bipush 10, 2) := by decide +kernel
theorem bd_114_19 : decode (bn_b 114) 19 = .ok (.if_icmp .ge 89, 3) := by decide +kernel
theorem bd_114_22 : decode (bn_b 114) 22 = .ok (.aload_n 0, 1) := by decide +kernel
theorem bd_114_23 : decode (bn_b 114) 23 = .ok (.iload_n 2, 1) := by decide +kernel
theorem bd_114_24 : decode (bn_b 114) 24 = .ok (.invokevirtual 128, 3) := by decide +kernel
theorem bd_114_27 : decode (bn_b 114) 27 = .ok (.ifCond .ne 81, 3) := by decide +kernel
theorem bd_114_30 : decode (bn_b 114) 30 = .ok (.iload_n 1, 1) := by decide +kernel
theorem bd_114_31 : decode (bn_b 114) 31 = .ok (.istore_n 3, 1) := by decide +kernel
theorem bd_114_32 : decode (bn_b 114) 32 = .ok (.iload_n 3, 1) := by decide +kernel
theorem bd_114_33 : decode (bn_b 114) 33 = .ok (.ifCond .le 50, 3) := by decide +kernel
theorem bd_114_36 : decode (bn_b 114) 36 = .ok (.aload_n 0, 1) := by decide +kernel
theorem bd_114_37 : decode (bn_b 114) 37 = .ok (.getfield 36, 3) := by decide +kernel
theorem bd_114_40 : decode (bn_b 114) 40 = .ok (.iload_n 3, 1) := by decide +kernel
theorem bd_114_41 : decode (bn_b 114) 41 = .ok (.iconst 1, 1) := by decide +kernel
theorem bd_114_42 : decode (bn_b 114) 42 = .ok (.isub, 1) := by decide +kernel
theorem bd_114_43 : decode (bn_b 114) 43 = .ok (.iaload, 1) := by decide +kernel
theorem bd_114_44 : decode (bn_b 114) 44 = .ok (.aload_n 0, 1) := by decide +kernel
theorem bd_114_45 : decode (bn_b 114) 45 = .ok (.getfield 52, 3) := by decide +kernel
theorem bd_114_48 : decode (bn_b 114) 48 = .ok (.aload_n 0, 1) := by decide +kernel
theorem bd_114_49 : decode (bn_b 114) 49 = .ok (.getfield 13, 3) := by decide +kernel
theorem bd_114_52 : decode (bn_b 114) 52 = .ok (.bipush 22, 2) := by decide +kernel
theorem bd_114_54 : decode (bn_b 114) 54 = .ok (.iconst 5, 1) := by decide +kernel
theorem bd_114_55 : decode (bn_b 114) 55 = .ok (.iload_n 2, 1) := by decide +kernel
theorem bd_114_56 : decode (bn_b 114) 56 = .ok (.imul, 1) := by decide +kernel
theorem bd_114_57 : decode (bn_b 114) 57 = .ok (.iadd, 1) := by decide +kernel
theorem bd_114_58 : decode (bn_b 114) 58 = .ok (.iaload, 1) := by decide +kernel
theorem bd_114_59 : decode (bn_b 114) 59 = .ok (.isub, 1) := by decide +kernel
theorem bd_114_60 : decode (bn_b 114) 60 = .ok (.if_icmp .le 23, 3) := by decide +kernel
theorem bd_114_63 : decode (bn_b 114) 63 = .ok (.aload_n 0, 1) := by decide +kernel
theorem bd_114_64 : decode (bn_b 114) 64 = .ok (.getfield 36, 3) := by decide +kernel
theorem bd_114_67 : decode (bn_b 114) 67 = .ok (.iload_n 3, 1) := by decide +kernel
theorem bd_114_68 : decode (bn_b 114) 68 = .ok (.aload_n 0, 1) := by decide +kernel
theorem bd_114_69 : decode (bn_b 114) 69 = .ok (.getfield 36, 3) := by decide +kernel
theorem bd_114_72 : decode (bn_b 114) 72 = .ok (.iload_n 3, 1) := by decide +kernel
theorem bd_114_73 : decode (bn_b 114) 73 = .ok (.iconst 1, 1) := by decide +kernel
theorem bd_114_74 : decode (bn_b 114) 74 = .ok (.isub, 1) := by decide +kernel
theorem bd_114_75 : decode (bn_b 114) 75 = .ok (.iaload, 1) := by decide +kernel
theorem bd_114_76 : decode (bn_b 114) 76 = .ok (.iastore, 1) := by decide +kernel
theorem bd_114_77 : decode (bn_b 114) 77 = .ok (.iinc 3 (-1), 3) := by decide +kernel
theorem bd_114_80 : decode (bn_b 114) 80 = .ok (.goto (-48), 3) := by decide +kernel
theorem bd_114_83 : decode (bn_b 114) 83 = .ok (.aload_n 0, 1) := by decide +kernel
theorem bd_114_84 : decode (bn_b 114) 84 = .ok (.getfield 36, 3) := by decide +kernel
theorem bd_114_87 : decode (bn_b 114) 87 = .ok (.iload_n 3, 1) := by decide +kernel
theorem bd_114_88 : decode (bn_b 114) 88 = .ok (.aload_n 0, 1) := by decide +kernel
theorem bd_114_89 : decode (bn_b 114) 89 = .ok (.getfield 52, 3) := by decide +kernel
theorem bd_114_92 : decode (bn_b 114) 92 = .ok (.aload_n 0, 1) := by decide +kernel
theorem bd_114_93 : decode (bn_b 114) 93 = .ok (.getfield 13, 3) := by decide +kernel
theorem bd_114_96 : decode (bn_b 114) 96 = .ok (.bipush 22, 2) := by decide +kernel
theorem bd_114_98 : decode (bn_b 114) 98 = .ok (.iconst 5, 1) := by decide +kernel
theorem bd_114_99 : decode (bn_b 114) 99 = .ok (.iload_n 2, 1) := by decide +kernel
theorem bd_114_100 : decode (bn_b 114) 100 = .ok (.imul, 1) := by decide +kernel
theorem bd_114_101 : decode (bn_b 114) 101 = .ok (.iadd, 1) := by decide +kernel
theorem bd_114_102 : decode (bn_b 114) 102 = .ok (.iaload, 1) := by decide +kernel
theorem bd_114_103 : decode (bn_b 114) 103 = .ok (.isub, 1) := by decide +kernel
theorem bd_114_104 : decode (bn_b 114) 104 = .ok (.iastore, 1) := by decide +kernel
theorem bd_114_105 : decode (bn_b 114) 105 = .ok (.iinc 1 1, 3) := by decide +kernel
theorem bd_114_108 : decode (bn_b 114) 108 = .ok (.iinc 2 1, 3) := by decide +kernel
theorem bd_114_111 : decode (bn_b 114) 111 = .ok (.goto (-107), 3) := by decide +kernel
theorem bd_114_114 : decode (bn_b 114) 114 = .ok (.iload_n 1, 1) := by decide +kernel
theorem bd_114_115 : decode (bn_b 114) 115 = .ok (.ireturn, 1) := by decide +kernel
theorem bd_115_0 : decode (bn_b 115) 0 = .ok (.iload_n 0, 1) := by decide +kernel
theorem bd_115_1 : decode (bn_b 115) 1 = .ok (.ifCond .ne 7, 3) := by decide +kernel
theorem bd_115_4 : decode (bn_b 115) 4 = .ok (.iconst 1, 1) := by decide +kernel
theorem bd_115_5 : decode (bn_b 115) 5 = .ok (.goto 15, 3) := by decide +kernel
theorem bd_115_8 : decode (bn_b 115) 8 = .ok (.iload_n 0, 1) := by decide +kernel
theorem bd_115_9 : decode (bn_b 115) 9 = .ok (.iconst 1, 1) := by decide +kernel
theorem bd_115_10 : decode (bn_b 115) 10 = .ok (.if_icmp .ne 8, 3) := by decide +kernel
theorem bd_115_13 : decode (bn_b 115) 13 = .ok (.bipush 10, 2) := by decide +kernel
theorem bd_115_15 : decode (bn_b 115) 15 = .ok (.goto 5, 3) := by decide +kernel
theorem bd_115_18 : decode (bn_b 115) 18 = .ok (.bipush 100, 2) := by decide +kernel
theorem bd_115_20 : decode (bn_b 115) 20 = .ok (.ireturn, 1) := by decide +kernel
theorem bd_116_0 : decode (bn_b 116) 0 = .ok (.iconst 0, 1) := by decide +kernel
theorem bd_116_1 : decode (bn_b 116) 1 = .ok (.istore 5, 2) := by decide +kernel
theorem bd_116_3 : decode (bn_b 116) 3 = .ok (.iconst 0, 1) := by decide +kernel
theorem bd_116_4 : decode (bn_b 116) 4 = .ok (.istore 6, 2) := by decide +kernel
theorem bd_116_6 : decode (bn_b 116) 6 = .ok (.iload 6, 2) := by decide +kernel
theorem bd_116_8 : decode (bn_b 116) 8 = .ok (.iload 4, 2) := by decide +kernel
theorem bd_116_10 : decode (bn_b 116) 10 = .ok (.if_icmp .ge 81, 3) := by decide +kernel
theorem bd_116_13 : decode (bn_b 116) 13 = .ok (.iload_n 1, 1) := by decide +kernel
theorem bd_116_14 : decode (bn_b 116) 14 = .ok (.iload 6, 2) := by decide +kernel
theorem bd_116_16 : decode (bn_b 116) 16 = .ok (.invokestatic 181, 3) := by decide +kernel
theorem bd_116_19 : decode (bn_b 116) 19 = .ok (.idiv, 1) := by decide +kernel
theorem bd_116_20 : decode (bn_b 116) 20 = .ok (.bipush 10, 2) := by decide +kernel
theorem bd_116_22 : decode (bn_b 116) 22 = .ok (.irem, 1) := by decide +kernel
theorem bd_116_23 : decode (bn_b 116) 23 = .ok (.istore 7, 2) := by decide +kernel
theorem bd_116_25 : decode (bn_b 116) 25 = .ok (.iload_n 2, 1) := by decide +kernel
theorem bd_116_26 : decode (bn_b 116) 26 = .ok (.iload 6, 2) := by decide +kernel
theorem bd_116_28 : decode (bn_b 116) 28 = .ok (.ishr, 1) := by decide +kernel
theorem bd_116_29 : decode (bn_b 116) 29 = .ok (.iconst 1, 1) := by decide +kernel
theorem bd_116_30 : decode (bn_b 116) 30 = .ok (.iand, 1) := by decide +kernel
theorem bd_116_31 : decode (bn_b 116) 31 = .ok (.iconst 1, 1) := by decide +kernel
theorem bd_116_32 : decode (bn_b 116) 32 = .ok (.if_icmp .ne 7, 3) := by decide +kernel
theorem bd_116_35 : decode (bn_b 116) 35 = .ok (.iconst 0, 1) := by decide +kernel
theorem bd_116_36 : decode (bn_b 116) 36 = .ok (.goto 22, 3) := by decide +kernel
theorem bd_116_39 : decode (bn_b 116) 39 = .ok (.iload_n 3, 1) := by decide +kernel
theorem bd_116_40 : decode (bn_b 116) 40 = .ok (.iload 6, 2) := by decide +kernel
theorem bd_116_42 : decode (bn_b 116) 42 = .ok (.ishr, 1) := by decide +kernel
theorem bd_116_43 : decode (bn_b 116) 43 = .ok (.iconst 1, 1) := by decide +kernel
theorem bd_116_44 : decode (bn_b 116) 44 = .ok (.iand, 1) := by decide +kernel
theorem bd_116_45 : decode (bn_b 116) 45 = .ok (.iconst 1, 1) := by decide +kernel
theorem bd_116_46 : decode (bn_b 116) 46 = .ok (.if_icmp .ne 8, 3) := by decide +kernel
theorem bd_116_49 : decode (bn_b 116) 49 = .ok (.iload 7, 2) := by decide +kernel
theorem bd_116_51 : decode (bn_b 116) 51 = .ok (.goto 7, 3) := by decide +kernel
theorem bd_116_54 : decode (bn_b 116) 54 = .ok (.iload 7, 2) := by decide +kernel
theorem bd_116_56 : decode (bn_b 116) 56 = .ok (.iconst 1, 1) := by decide +kernel
theorem bd_116_57 : decode (bn_b 116) 57 = .ok (.iadd, 1) := by decide +kernel
theorem bd_116_58 : decode (bn_b 116) 58 = .ok (.istore 7, 2) := by decide +kernel
theorem bd_116_60 : decode (bn_b 116) 60 = .ok (.iload 7, 2) := by decide +kernel
theorem bd_116_62 : decode (bn_b 116) 62 = .ok (.aload_n 0, 1) := by decide +kernel
theorem bd_116_63 : decode (bn_b 116) 63 = .ok (.getfield 48, 3) := by decide +kernel
theorem bd_116_66 : decode (bn_b 116) 66 = .ok (.if_icmp .le 6, 3) := by decide +kernel
theorem bd_116_69 : decode (bn_b 116) 69 = .ok (.bipush (-9), 2) := by decide +kernel
theorem bd_116_71 : decode (bn_b 116) 71 = .ok (.ireturn, 1) := by decide +kernel
theorem bd_116_72 : decode (bn_b 116) 72 = .ok (.iload 5, 2) := by decide +kernel
theorem bd_116_74 : decode (bn_b 116) 74 = .ok (.iload 7, 2) := by decide +kernel
theorem bd_116_76 : decode (bn_b 116) 76 = .ok (.iload 6, 2) := by decide +kernel
theorem bd_116_78 : decode (bn_b 116) 78 = .ok (.invokestatic 181, 3) := by decide +kernel
theorem bd_116_81 : decode (bn_b 116) 81 = .ok (.imul, 1) := by decide +kernel
theorem bd_116_82 : decode (bn_b 116) 82 = .ok (.iadd, 1) := by decide +kernel
theorem bd_116_83 : decode (bn_b 116) 83 = .ok (.istore 5, 2) := by decide +kernel
theorem bd_116_85 : decode (bn_b 116) 85 = .ok (.iinc 6 1, 3) := by decide +kernel
theorem bd_116_88 : decode (bn_b 116) 88 = .ok (.goto (-82), 3) := by decide +kernel
theorem bd_116_91 : decode (bn_b 116) 91 = .ok (.iload 5, 2) := by decide +kernel
theorem bd_116_93 : decode (bn_b 116) 93 = .ok (.ireturn, 1) := by decide +kernel
theorem bd_117_0 : decode (bn_b 117) 0 = .ok (.aload_n 0, 1) := by decide +kernel
theorem bd_117_1 : decode (bn_b 117) 1 = .ok (.invokevirtual 158, 3) := by decide +kernel
theorem bd_117_4 : decode (bn_b 117) 4 = .ok (.istore_n 1, 1) := by decide +kernel
theorem bd_117_5 : decode (bn_b 117) 5 = .ok (.iload_n 1, 1) := by decide +kernel
theorem bd_117_6 : decode (bn_b 117) 6 = .ok (.invokestatic 165, 3) := by decide +kernel
theorem bd_117_9 : decode (bn_b 117) 9 = .ok (.istore_n 2, 1) := by decide +kernel
theorem bd_117_10 : decode (bn_b 117) 10 = .ok (.iload_n 2, 1) := by decide +kernel
theorem bd_117_11 : decode (bn_b 117) 11 = .ok (.ifCond .eq 8, 3) := by decide +kernel
theorem bd_117_14 : decode (bn_b 117) 14 = .ok (.iload_n 2, 1) := by decide +kernel
theorem bd_117_15 : decode (bn_b 117) 15 = .ok (.iconst 3, 1) := by decide +kernel
theorem bd_117_16 : decode (bn_b 117) 16 = .ok (.if_icmp .le 6, 3) := by decide +kernel
theorem bd_117_19 : decode (bn_b 117) 19 = .ok (.bipush (-3), 2) := by decide +kernel
theorem bd_117_21 : decode (bn_b 117) 21 = .ok (.ireturn, 1) := by decide +kernel
theorem bd_117_22 : decode (bn_b 117) 22 = .ok (.aload_n 0, 1) := by decide +kernel
theorem bd_117_23 : decode (bn_b 117) 23 = .ok (.invokevirtual 184, 3) := by decide +kernel
theorem bd_117_26 : decode (bn_b 117) 26 = .ok (.istore_n 3, 1) := by decide +kernel
theorem bd_117_27 : decode (bn_b 117) 27 = .ok (.iconst 0, 1) := by decide +kernel
theorem bd_117_28 : decode (bn_b 117) 28 = .ok (.istore 4, 2) := by decide +kernel
theorem bd_117_30 : decode (bn_b 117) 30 = .ok (.iconst 0, 1) := by decide +kernel
theorem bd_117_31 : decode (bn_b 117) 31 = .ok (.istore 5, 2) := by decide +kernel
theorem bd_117_33 : decode (bn_b 117) 33 = .ok (.iconst 0, 1) := by decide +kernel
theorem bd_117_34 : decode (bn_b 117) 34 = .ok (.istore 6, 2) := by decide +kernel
theorem bd_117_36 : decode (bn_b 117) 36 = .ok (.iload 6, 2) := by decide +kernel
theorem bd_117_38 : decode (bn_b 117) 38 = .ok (.iload_n 2, 1) := by decide +kernel
theorem bd_117_39 : decode (bn_b 117) 39 = .ok (.if_icmp .ge 56, 3) := by decide +kernel
theorem bd_117_42 : decode (bn_b 117) 42 = .ok (.iload_n 1, 1) := by decide +kernel
theorem bd_117_43 : decode (bn_b 117) 43 = .ok (.iload 6, 2) := by decide +kernel
theorem bd_117_45 : decode (bn_b 117) 45 = .ok (.invokestatic 168, 3) := by decide +kernel
theorem bd_117_48 : decode (bn_b 117) 48 = .ok (.istore 7, 2) := by decide +kernel
theorem bd_117_50 : decode (bn_b 117) 50 = .ok (.iload 4, 2) := by decide +kernel
theorem bd_117_52 : decode (bn_b 117) 52 = .ok (.aload_n 0, 1) := by decide +kernel
theorem bd_117_53 : decode (bn_b 117) 53 = .ok (.getfield 13, 3) := by decide +kernel
theorem bd_117_56 : decode (bn_b 117) 56 = .ok (.iconst 4, 1) := by decide +kernel
theorem bd_117_57 : decode (bn_b 117) 57 = .ok (.iload 7, 2) := by decide +kernel
theorem bd_117_59 : decode (bn_b 117) 59 = .ok (.imul, 1) := by decide +kernel
theorem bd_117_60 : decode (bn_b 117) 60 = .ok (.iaload, 1) := by decide +kernel
theorem bd_117_61 : decode (bn_b 117) 61 = .ok (.iload 6, 2) := by decide +kernel
theorem bd_117_63 : decode (bn_b 117) 63 = .ok (.invokestatic 181, 3) := by decide +kernel
theorem bd_117_66 : decode (bn_b 117) 66 = .ok (.imul, 1) := by decide +kernel
theorem bd_117_67 : decode (bn_b 117) 67 = .ok (.iadd, 1) := by decide +kernel
theorem bd_117_68 : decode (bn_b 117) 68 = .ok (.istore 4, 2) := by decide +kernel
theorem bd_117_70 : decode (bn_b 117) 70 = .ok (.iload 5, 2) := by decide +kernel
theorem bd_117_72 : decode (bn_b 117) 72 = .ok (.aload_n 0, 1) := by decide +kernel
theorem bd_117_73 : decode (bn_b 117) 73 = .ok (.getfield 13, 3) := by decide +kernel
theorem bd_117_76 : decode (bn_b 117) 76 = .ok (.iconst 4, 1) := by decide +kernel
theorem bd_117_77 : decode (bn_b 117) 77 = .ok (.iload 7, 2) := by decide +kernel
theorem bd_117_79 : decode (bn_b 117) 79 = .ok (.imul, 1) := by decide +kernel
theorem bd_117_80 : decode (bn_b 117) 80 = .ok (.iconst 2, 1) := by decide +kernel
theorem bd_117_81 : decode (bn_b 117) 81 = .ok (.iadd, 1) := by decide +kernel
theorem bd_117_82 : decode (bn_b 117) 82 = .ok (.iaload, 1) := by decide +kernel
theorem bd_117_83 : decode (bn_b 117) 83 = .ok (.iload 6, 2) := by decide +kernel
theorem bd_117_85 : decode (bn_b 117) 85 = .ok (.ishl, 1) := by decide +kernel
theorem bd_117_86 : decode (bn_b 117) 86 = .ok (.ior, 1) := by decide +kernel
theorem bd_117_87 : decode (bn_b 117) 87 = .ok (.istore 5, 2) := by decide +kernel
theorem bd_117_89 : decode (bn_b 117) 89 = .ok (.iinc 6 1, 3) := by decide +kernel
theorem bd_117_92 : decode (bn_b 117) 92 = .ok (.goto (-56), 3) := by decide +kernel
theorem bd_117_95 : decode (bn_b 117) 95 = .ok (.iconst 0, 1) := by decide +kernel
theorem bd_117_96 : decode (bn_b 117) 96 = .ok (.istore 6, 2) := by decide +kernel
theorem bd_117_98 : decode (bn_b 117) 98 = .ok (.iload 6, 2) := by decide +kernel
theorem bd_117_100 : decode (bn_b 117) 100 = .ok (.sipush 11000, 3) := by decide +kernel
theorem bd_117_103 : decode (bn_b 117) 103 = .ok (.if_icmp .ge 28, 3) := by decide +kernel
theorem bd_117_106 : decode (bn_b 117) 106 = .ok (.aload_n 0, 1) := by decide +kernel
theorem bd_117_107 : decode (bn_b 117) 107 = .ok (.getfield 29, 3) := by decide +kernel
theorem bd_117_110 : decode (bn_b 117) 110 = .ok (.iload 6, 2) := by decide +kernel
theorem bd_117_112 : decode (bn_b 117) 112 = .ok (.iload 6, 2) := by decide +kernel
theorem bd_117_114 : decode (bn_b 117) 114 = .ok (.iload 4, 2) := by decide +kernel
theorem bd_117_116 : decode (bn_b 117) 116 = .ok (.if_icmp .ne 7, 3) := by decide +kernel
theorem bd_117_119 : decode (bn_b 117) 119 = .ok (.iconst 1, 1) := by decide +kernel
theorem bd_117_120 : decode (bn_b 117) 120 = .ok (.goto 4, 3) := by decide +kernel
theorem bd_117_123 : decode (bn_b 117) 123 = .ok (.iconst 0, 1) := by decide +kernel
theorem bd_117_124 : decode (bn_b 117) 124 = .ok (.bastore, 1) := by decide +kernel
theorem bd_117_125 : decode (bn_b 117) 125 = .ok (.iinc 6 1, 3) := by decide +kernel
theorem bd_117_128 : decode (bn_b 117) 128 = .ok (.goto (-30), 3) := by decide +kernel
theorem bd_117_131 : decode (bn_b 117) 131 = .ok (.iconst 0, 1) := by decide +kernel
theorem bd_117_132 : decode (bn_b 117) 132 = .ok (.istore 6, 2) := by decide +kernel
theorem bd_117_134 : decode (bn_b 117) 134 = .ok (.aload_n 0, 1) := by decide +kernel
theorem bd_117_135 : decode (bn_b 117) 135 = .ok (.iload_n 3, 1) := by decide +kernel
theorem bd_117_136 : decode (bn_b 117) 136 = .ok (.iload 6, 2) := by decide +kernel
theorem bd_117_138 : decode (bn_b 117) 138 = .ok (.iload 6, 2) := by decide +kernel
theorem bd_117_140 : decode (bn_b 117) 140 = .ok (.ifCond .ne 8, 3) := by decide +kernel
theorem bd_117_143 : decode (bn_b 117) 143 = .ok (.iload 5, 2) := by decide +kernel
theorem bd_117_145 : decode (bn_b 117) 145 = .ok (.goto 4, 3) := by decide +kernel
theorem bd_117_148 : decode (bn_b 117) 148 = .ok (.iconst 0, 1) := by decide +kernel
theorem bd_117_149 : decode (bn_b 117) 149 = .ok (.iload_n 2, 1) := by decide +kernel
theorem bd_117_150 : decode (bn_b 117) 150 = .ok (.invokevirtual 187, 3) := by decide +kernel
theorem bd_117_153 : decode (bn_b 117) 153 = .ok (.ifCond .eq 9, 3) := by decide +kernel
theorem bd_117_156 : decode (bn_b 117) 156 = .ok (.iinc 6 1, 3) := by decide +kernel
theorem bd_117_159 : decode (bn_b 117) 159 = .ok (.goto (-25), 3) := by decide +kernel
theorem bd_117_162 : decode (bn_b 117) 162 = .ok (.iload 6, 2) := by decide +kernel
theorem bd_117_164 : decode (bn_b 117) 164 = .ok (.ireturn, 1) := by decide +kernel
theorem bd_118_0 : decode (bn_b 118) 0 = .ok (.iconst 0, 1) := by decide +kernel
theorem bd_118_1 : decode (bn_b 118) 1 = .ok (.istore 5, 2) := by decide +kernel
theorem bd_118_3 : decode (bn_b 118) 3 = .ok (.iconst 0, 1) := by decide +kernel
theorem bd_118_4 : decode (bn_b 118) 4 = .ok (.istore 6, 2) := by decide +kernel
theorem bd_118_6 : decode (bn_b 118) 6 = .ok (.iload 6, 2) := by decide +kernel
theorem bd_118_8 : decode (bn_b 118) 8 = .ok (.sipush 11000, 3) := by decide +kernel
theorem bd_118_11 : decode (bn_b 118) 11 = .ok (.if_icmp .ge 17, 3) := by decide +kernel
theorem bd_118_14 : decode (bn_b 118) 14 = .ok (.aload_n 0, 1) := by decide +kernel
theorem bd_118_15 : decode (bn_b 118) 15 = .ok (.getfield 33, 3) := by decide +kernel
theorem bd_118_18 : decode (bn_b 118) 18 = .ok (.iload 6, 2) := by decide +kernel
theorem bd_118_20 : decode (bn_b 118) 20 = .ok (.iconst 0, 1) := by decide +kernel
theorem bd_118_21 : decode (bn_b 118) 21 = .ok (.bastore, 1) := by decide +kernel
theorem bd_118_22 : decode (bn_b 118) 22 = .ok (.iinc 6 1, 3) := by decide +kernel
theorem bd_118_25 : decode (bn_b 118) 25 = .ok (.goto (-19), 3) := by decide +kernel
theorem bd_118_28 : decode (bn_b 118) 28 = .ok (.iconst 0, 1) := by decide +kernel
theorem bd_118_29 : decode (bn_b 118) 29 = .ok (.istore 6, 2) := by decide +kernel
theorem bd_118_31 : decode (bn_b 118) 31 = .ok (.iload 6, 2) := by decide +kernel
theorem bd_118_33 : decode (bn_b 118) 33 = .ok (.sipush 11000, 3) := by decide +kernel
theorem bd_118_36 : decode (bn_b 118) 36 = .ok (.if_icmp .ge 140, 3) := by decide +kernel
theorem bd_118_39 : decode (bn_b 118) 39 = .ok (.aload_n 0, 1) := by decide +kernel
theorem bd_118_40 : decode (bn_b 118) 40 = .ok (.getfield 29, 3) := by decide +kernel
theorem bd_118_43 : decode (bn_b 118) 43 = .ok (.iload 6, 2) := by decide +kernel
theorem bd_118_45 : decode (bn_b 118) 45 = .ok (.baload, 1) := by decide +kernel
theorem bd_118_46 : decode (bn_b 118) 46 = .ok (.ifCond .eq 124, 3) := by decide +kernel
theorem bd_118_49 : decode (bn_b 118) 49 = .ok (.iload 6, 2) := by decide +kernel
theorem bd_118_51 : decode (bn_b 118) 51 = .ok (.sipush 1000, 3) := by decide +kernel
theorem bd_118_54 : decode (bn_b 118) 54 = .ok (.idiv, 1) := by decide +kernel
theorem bd_118_55 : decode (bn_b 118) 55 = .ok (.istore 7, 2) := by decide +kernel
theorem bd_118_57 : decode (bn_b 118) 57 = .ok (.iload 7, 2) := by decide +kernel
theorem bd_118_59 : decode (bn_b 118) 59 = .ok (.iload_n 1, 1) := by decide +kernel
theorem bd_118_60 : decode (bn_b 118) 60 = .ok (.if_icmp .ge 20, 3) := by decide +kernel
theorem bd_118_63 : decode (bn_b 118) 63 = .ok (.aload_n 0, 1) := by decide +kernel
theorem bd_118_64 : decode (bn_b 118) 64 = .ok (.getfield 36, 3) := by decide +kernel
theorem bd_118_67 : decode (bn_b 118) 67 = .ok (.iload 7, 2) := by decide +kernel
theorem bd_118_69 : decode (bn_b 118) 69 = .ok (.iaload, 1) := by decide +kernel
theorem bd_118_70 : decode (bn_b 118) 70 = .ok (.iload_n 2, 1) := by decide +kernel
theorem bd_118_71 : decode (bn_b 118) 71 = .ok (.if_icmp .gt 9, 3) := by decide +kernel
theorem bd_118_74 : decode (bn_b 118) 74 = .ok (.iinc 7 1, 3) := by decide +kernel
theorem bd_118_77 : decode (bn_b 118) 77 = .ok (.goto (-20), 3) := by decide +kernel
theorem bd_118_80 : decode (bn_b 118) 80 = .ok (.iconst 0, 1) := by decide +kernel
theorem bd_118_81 : decode (bn_b 118) 81 = .ok (.istore 8, 2) := by decide +kernel
theorem bd_118_83 : decode (bn_b 118) 83 = .ok (.iload 8, 2) := by decide +kernel
theorem bd_118_85 : decode (bn_b 118) 85 = .ok (.iconst 1, 1) := by decide +kernel
theorem bd_118_86 : decode (bn_b 118) 86 = .ok (.iload 4, 2) := by decide +kernel
theorem bd_118_88 : decode (bn_b 118) 88 = .ok (.ishl, 1) := by decide +kernel
theorem bd_118_89 : decode (bn_b 118) 89 = .ok (.if_icmp .ge 81, 3) := by decide +kernel
theorem bd_118_92 : decode (bn_b 118) 92 = .ok (.iload 8, 2) := by decide +kernel
theorem bd_118_94 : decode (bn_b 118) 94 = .ok (.iload_n 3, 1) := by decide +kernel
theorem bd_118_95 : decode (bn_b 118) 95 = .ok (.iand, 1) := by decide +kernel
theorem bd_118_96 : decode (bn_b 118) 96 = .ok (.ifCond .ne 33, 3) := by decide +kernel
theorem bd_118_99 : decode (bn_b 118) 99 = .ok (.iload 7, 2) := by decide +kernel
theorem bd_118_101 : decode (bn_b 118) 101 = .ok (.iload 8, 2) := by decide +kernel
theorem bd_118_103 : decode (bn_b 118) 103 = .ok (.invokestatic 165, 3) := by decide +kernel
theorem bd_118_106 : decode (bn_b 118) 106 = .ok (.iadd, 1) := by decide +kernel
theorem bd_118_107 : decode (bn_b 118) 107 = .ok (.iload_n 1, 1) := by decide +kernel
theorem bd_118_108 : decode (bn_b 118) 108 = .ok (.if_icmp .gt 21, 3) := by decide +kernel
theorem bd_118_111 : decode (bn_b 118) 111 = .ok (.aload_n 0, 1) := by decide +kernel
theorem bd_118_112 : decode (bn_b 118) 112 = .ok (.iload 6, 2) := by decide +kernel
theorem bd_118_114 : decode (bn_b 118) 114 = .ok (.sipush 1000, 3) := by decide +kernel
theorem bd_118_117 : decode (bn_b 118) 117 = .ok (.irem, 1) := by decide +kernel
theorem bd_118_118 : decode (bn_b 118) 118 = .ok (.iload 8, 2) := by decide +kernel
theorem bd_118_120 : decode (bn_b 118) 120 = .ok (.iload_n 3, 1) := by decide +kernel
theorem bd_118_121 : decode (bn_b 118) 121 = .ok (.iload 4, 2) := by decide +kernel
theorem bd_118_123 : decode (bn_b 118) 123 = .ok (.invokevirtual 191, 3) := by decide +kernel
theorem bd_118_126 : decode (bn_b 118) 126 = .ok (.goto 5, 3) := by decide +kernel
theorem bd_118_129 : decode (bn_b 118) 129 = .ok (.bipush (-9), 2) := by decide +kernel
theorem bd_118_131 : decode (bn_b 118) 131 = .ok (.istore 9, 2) := by decide +kernel
theorem bd_118_133 : decode (bn_b 118) 133 = .ok (.iload 9, 2) := by decide +kernel
theorem bd_118_135 : decode (bn_b 118) 135 = .ok (.bipush (-9), 2) := by decide +kernel
theorem bd_118_137 : decode (bn_b 118) 137 = .ok (.if_icmp .eq 27, 3) := by decide +kernel
theorem bd_118_140 : decode (bn_b 118) 140 = .ok (.aload_n 0, 1) := by decide +kernel
theorem bd_118_141 : decode (bn_b 118) 141 = .ok (.getfield 33, 3) := by decide +kernel
theorem bd_118_144 : decode (bn_b 118) 144 = .ok (.sipush 1000, 3) := by decide +kernel
theorem bd_118_147 : decode (bn_b 118) 147 = .ok (.iload 7, 2) := by decide +kernel
theorem bd_118_149 : decode (bn_b 118) 149 = .ok (.iload 8, 2) := by decide +kernel
theorem bd_118_151 : decode (bn_b 118) 151 = .ok (.invokestatic 165, 3) := by decide +kernel
theorem bd_118_154 : decode (bn_b 118) 154 = .ok (.iadd, 1) := by decide +kernel
theorem bd_118_155 : decode (bn_b 118) 155 = .ok (.imul, 1) := by decide +kernel
theorem bd_118_156 : decode (bn_b 118) 156 = .ok (.iload 9, 2) := by decide +kernel
theorem bd_118_158 : decode (bn_b 118) 158 = .ok (.iadd, 1) := by decide +kernel
theorem bd_118_159 : decode (bn_b 118) 159 = .ok (.iconst 1, 1) := by decide +kernel
theorem bd_118_160 : decode (bn_b 118) 160 = .ok (.bastore, 1) := by decide +kernel
theorem bd_118_161 : decode (bn_b 118) 161 = .ok (.iconst 1, 1) := by decide +kernel
theorem bd_118_162 : decode (bn_b 118) 162 = .ok (.istore 5, 2) := by decide +kernel
theorem bd_118_164 : decode (bn_b 118) 164 = .ok (.iinc 8 1, 3) := by decide +kernel
theorem bd_118_167 : decode (bn_b 118) 167 = .ok (.goto (-84), 3) := by decide +kernel
theorem bd_118_170 : decode (bn_b 118) 170 = .ok (.iinc 6 1, 3) := by decide +kernel
theorem bd_118_173 : decode (bn_b 118) 173 = .ok (.goto (-142), 3) := by decide +kernel
theorem bd_118_176 : decode (bn_b 118) 176 = .ok (.iconst 0, 1) := by decide +kernel
theorem bd_118_177 : decode (bn_b 118) 177 = .ok (.istore 6, 2) := by decide +kernel
theorem bd_118_179 : decode (bn_b 118) 179 = .ok (.iload 6, 2) := by decide +kernel
theorem bd_118_181 : decode (bn_b 118) 181 = .ok (.sipush 11000, 3) := by decide +kernel
theorem bd_118_184 : decode (bn_b 118) 184 = .ok (.if_icmp .ge 23, 3) := by decide +kernel
theorem bd_118_187 : decode (bn_b 118) 187 = .ok (.aload_n 0, 1) := by decide +kernel
theorem bd_118_188 : decode (bn_b 118) 188 = .ok (.getfield 29, 3) := by decide +kernel
theorem bd_118_191 : decode (bn_b 118) 191 = .ok (.iload 6, 2) := by decide +kernel
theorem bd_118_193 : decode (bn_b 118) 193 = .ok (.aload_n 0, 1) := by decide +kernel
theorem bd_118_194 : decode (bn_b 118) 194 = .ok (.getfield 33, 3) := by decide +kernel
theorem bd_118_197 : decode (bn_b 118) 197 = .ok (.iload 6, 2) := by decide +kernel
theorem bd_118_199 : decode (bn_b 118) 199 = .ok (.baload, 1) := by decide +kernel
theorem bd_118_200 : decode (bn_b 118) 200 = .ok (.bastore, 1) := by decide +kernel
theorem bd_118_201 : decode (bn_b 118) 201 = .ok (.iinc 6 1, 3) := by decide +kernel
theorem bd_118_204 : decode (bn_b 118) 204 = .ok (.goto (-25), 3) := by decide +kernel
theorem bd_118_207 : decode (bn_b 118) 207 = .ok (.iload 5, 2) := by decide +kernel
theorem bd_118_209 : decode (bn_b 118) 209 = .ok (.ireturn, 1) := by decide +kernel
theorem bd_119_0 : decode (bn_b 119) 0 = .ok (.iconst 0, 1) := by decide +kernel
theorem bd_119_1 : decode (bn_b 119) 1 = .ok (.istore_n 1, 1) := by decide +kernel
theorem bd_119_2 : decode (bn_b 119) 2 = .ok (.iconst 0, 1) := by decide +kernel
theorem bd_119_3 : decode (bn_b 119) 3 = .ok (.istore_n 2, 1) := by decide +kernel
theorem bd_119_4 : decode (bn_b 119) 4 = .ok (.iload_n 2, 1) := by decide +kernel
theorem bd_119_5 : decode (bn_b 119) 5 = .ok (.aload_n 0, 1) := by decide +kernel
theorem bd_119_6 : decode (bn_b 119) 6 = .ok (.getfield 109, 3) := by decide +kernel
theorem bd_119_9 : decode (bn_b 119) 9 = .ok (.if_icmp .ge 28, 3) := by decide +kernel
theorem bd_119_12 : decode (bn_b 119) 12 = .ok (.aload_n 0, 1) := by decide +kernel
theorem bd_119_13 : decode (bn_b 119) 13 = .ok (.iload_n 2, 1) := by decide +kernel
theorem bd_119_14 : decode (bn_b 119) 14 = .ok (.invokevirtual 138, 3) := by decide +kernel
theorem bd_119_17 : decode (bn_b 119) 17 = .ok (.iload_n 1, 1) := by decide +kernel
theorem bd_119_18 : decode (bn_b 119) 18 = .ok (.if_icmp .le 11, 3) := by decide +kernel
theorem bd_119_21 : decode (bn_b 119) 21 = .ok (.aload_n 0, 1) := by decide +kernel
theorem bd_119_22 : decode (bn_b 119) 22 = .ok (.iload_n 2, 1) := by decide +kernel
theorem bd_119_23 : decode (bn_b 119) 23 = .ok (.invokevirtual 138, 3) := by decide +kernel
theorem bd_119_26 : decode (bn_b 119) 26 = .ok (.goto 4, 3) := by decide +kernel
theorem bd_119_29 : decode (bn_b 119) 29 = .ok (.iload_n 1, 1) := by decide +kernel
theorem bd_119_30 : decode (bn_b 119) 30 = .ok (.istore_n 1, 1) := by decide +kernel
theorem bd_119_31 : decode (bn_b 119) 31 = .ok (.iinc 2 1, 3) := by decide +kernel
theorem bd_119_34 : decode (bn_b 119) 34 = .ok (.goto (-30), 3) := by decide +kernel
theorem bd_119_37 : decode (bn_b 119) 37 = .ok (.iload_n 1, 1) := by decide +kernel
theorem bd_119_38 : decode (bn_b 119) 38 = .ok (.ireturn, 1) := by decide +kernel
theorem bd_120_0 : decode (bn_b 120) 0 = .ok (.iconst 0, 1) := by decide +kernel
theorem bd_120_1 : decode (bn_b 120) 1 = .ok (.istore_n 2, 1) := by decide +kernel
theorem bd_120_2 : decode (bn_b 120) 2 = .ok (.iconst 0, 1) := by decide +kernel
theorem bd_120_3 : decode (bn_b 120) 3 = .ok (.istore_n 3, 1) := by decide +kernel
theorem bd_120_4 : decode (bn_b 120) 4 = .ok (.iload_n 3, 1) := by decide +kernel
theorem bd_120_5 : decode (bn_b 120) 5 = .ok (.aload_n 0, 1) := by decide +kernel
theorem bd_120_6 : decode (bn_b 120) 6 = .ok (.getfield 109, 3) := by decide +kernel
theorem bd_120_9 : decode (bn_b 120) 9 = .ok (.if_icmp .ge 28, 3) := by decide +kernel
theorem bd_120_12 : decode (bn_b 120) 12 = .ok (.iload_n 2, 1) := by decide +kernel
theorem bd_120_13 : decode (bn_b 120) 13 = .ok (.ifCond .ne 12, 3) := by decide +kernel
theorem bd_120_16 : decode (bn_b 120) 16 = .ok (.aload_n 0, 1) := by decide +kernel
theorem bd_120_17 : decode (bn_b 120) 17 = .ok (.iload_n 3, 1) := by decide +kernel
theorem bd_120_18 : decode (bn_b 120) 18 = .ok (.invokevirtual 138, 3) := by decide +kernel
theorem bd_120_21 : decode (bn_b 120) 21 = .ok (.iload_n 1, 1) := by decide +kernel
theorem bd_120_22 : decode (bn_b 120) 22 = .ok (.if_icmp .ne 7, 3) := by decide +kernel
theorem bd_120_25 : decode (bn_b 120) 25 = .ok (.iconst 1, 1) := by decide +kernel
theorem bd_120_26 : decode (bn_b 120) 26 = .ok (.goto 4, 3) := by decide +kernel
theorem bd_120_29 : decode (bn_b 120) 29 = .ok (.iconst 0, 1) := by decide +kernel
theorem bd_120_30 : decode (bn_b 120) 30 = .ok (.istore_n 2, 1) := by decide +kernel
theorem bd_120_31 : decode (bn_b 120) 31 = .ok (.iinc 3 1, 3) := by decide +kernel
theorem bd_120_34 : decode (bn_b 120) 34 = .ok (.goto (-30), 3) := by decide +kernel
theorem bd_120_37 : decode (bn_b 120) 37 = .ok (.iload_n 2, 1) := by decide +kernel
theorem bd_120_38 : decode (bn_b 120) 38 = .ok (.ireturn, 1) := by decide +kernel
theorem bd_121_0 : decode (bn_b 121) 0 = .ok (.iload_n 1, 1) := by decide +kernel
theorem bd_121_1 : decode (bn_b 121) 1 = .ok (.istore_n 2, 1) := by decide +kernel
theorem bd_121_2 : decode (bn_b 121) 2 = .ok (.iconst 1, 1) := by decide +kernel
theorem bd_121_3 : decode (bn_b 121) 3 = .ok (.istore_n 3, 1) := by decide +kernel
theorem bd_121_4 : decode (bn_b 121) 4 = .ok (.iload_n 3, 1) := by decide +kernel
theorem bd_121_5 : decode (bn_b 121) 5 = .ok (.aload_n 0, 1) := by decide +kernel
theorem bd_121_6 : decode (bn_b 121) 6 = .ok (.invokevirtual 195, 3) := by decide +kernel
theorem bd_121_9 : decode (bn_b 121) 9 = .ok (.if_icmp .ge 30, 3) := by decide +kernel
theorem bd_121_12 : decode (bn_b 121) 12 = .ok (.iload_n 2, 1) := by decide +kernel
theorem bd_121_13 : decode (bn_b 121) 13 = .ok (.ifCond .lt 26, 3) := by decide +kernel
theorem bd_121_16 : decode (bn_b 121) 16 = .ok (.aload_n 0, 1) := by decide +kernel
theorem bd_121_17 : decode (bn_b 121) 17 = .ok (.iload_n 3, 1) := by decide +kernel
theorem bd_121_18 : decode (bn_b 121) 18 = .ok (.invokevirtual 198, 3) := by decide +kernel
theorem bd_121_21 : decode (bn_b 121) 21 = .ok (.ifCond .ne 12, 3) := by decide +kernel
theorem bd_121_24 : decode (bn_b 121) 24 = .ok (.iload_n 2, 1) := by decide +kernel
theorem bd_121_25 : decode (bn_b 121) 25 = .ok (.ifCond .ne 5, 3) := by decide +kernel
theorem bd_121_28 : decode (bn_b 121) 28 = .ok (.iload_n 3, 1) := by decide +kernel
theorem bd_121_29 : decode (bn_b 121) 29 = .ok (.ireturn, 1) := by decide +kernel
theorem bd_121_30 : decode (bn_b 121) 30 = .ok (.iinc 2 (-1), 3) := by decide +kernel
theorem bd_121_33 : decode (bn_b 121) 33 = .ok (.iinc 3 1, 3) := by decide +kernel
theorem bd_121_36 : decode (bn_b 121) 36 = .ok (.goto (-32), 3) := by decide +kernel
theorem bd_121_39 : decode (bn_b 121) 39 = .ok (.bipush (-9), 2) := by decide +kernel
theorem bd_121_41 : decode (bn_b 121) 41 = .ok (.ireturn, 1) := by decide +kernel
theorem bd_122_0 : decode (bn_b 122) 0 = .ok (.iload_n 0, 1) := by decide +kernel
theorem bd_122_1 : decode (bn_b 122) 1 = .ok (.istore_n 2, 1) := by decide +kernel
theorem bd_122_2 : decode (bn_b 122) 2 = .ok (.iload_n 1, 1) := by decide +kernel
theorem bd_122_3 : decode (bn_b 122) 3 = .ok (.istore_n 3, 1) := by decide +kernel
theorem bd_122_4 : decode (bn_b 122) 4 = .ok (.iload_n 3, 1) := by decide +kernel
theorem bd_122_5 : decode (bn_b 122) 5 = .ok (.ifCond .eq 16, 3) := by decide +kernel
theorem bd_122_8 : decode (bn_b 122) 8 = .ok (.iload_n 2, 1) := by decide +kernel
theorem bd_122_9 : decode (bn_b 122) 9 = .ok (.iload_n 3, 1) := by decide +kernel
theorem bd_122_10 : decode (bn_b 122) 10 = .ok (.irem, 1) := by decide +kernel
theorem bd_122_11 : decode (bn_b 122) 11 = .ok (.istore 4, 2) := by decide +kernel
theorem bd_122_13 : decode (bn_b 122) 13 = .ok (.iload_n 3, 1) := by decide +kernel
theorem bd_122_14 : decode (bn_b 122) 14 = .ok (.istore_n 2, 1) := by decide +kernel
theorem bd_122_15 : decode (bn_b 122) 15 = .ok (.iload 4, 2) := by decide +kernel
theorem bd_122_17 : decode (bn_b 122) 17 = .ok (.istore_n 3, 1) := by decide +kernel
theorem bd_122_18 : decode (bn_b 122) 18 = .ok (.goto (-14), 3) := by decide +kernel
theorem bd_122_21 : decode (bn_b 122) 21 = .ok (.iload_n 2, 1) := by decide +kernel
theorem bd_122_22 : decode (bn_b 122) 22 = .ok (.ireturn, 1) := by decide +kernel
theorem bd_123_0 : decode (bn_b 123) 0 = .ok (.iload_n 1, 1) := by decide +kernel
theorem bd_123_1 : decode (bn_b 123) 1 = .ok (.i2l, 1) := by decide +kernel
theorem bd_123_2 : decode (bn_b 123) 2 = .ok (.lconst 1, 1) := by decide +kernel
theorem bd_123_3 : decode (bn_b 123) 3 = .ok (.ldc2_w 201, 3) := by decide +kernel
theorem bd_123_6 : decode (bn_b 123) 6 = .ok (.invokestatic 57, 3) := by decide +kernel
theorem bd_123_9 : decode (bn_b 123) 9 = .ok (.ifCond .eq 27, 3) := by decide +kernel
theorem bd_123_12 : decode (bn_b 123) 12 = .ok (.iload_n 2, 1) := by decide +kernel
theorem bd_123_13 : decode (bn_b 123) 13 = .ok (.i2l, 1) := by decide +kernel
theorem bd_123_14 : decode (bn_b 123) 14 = .ok (.lconst 1, 1) := by decide +kernel
theorem bd_123_15 : decode (bn_b 123) 15 = .ok (.ldc2_w 201, 3) := by decide +kernel
theorem bd_123_18 : decode (bn_b 123) 18 = .ok (.invokestatic 57, 3) := by decide +kernel
theorem bd_123_21 : decode (bn_b 123) 21 = .ok (.ifCond .eq 15, 3) := by decide +kernel
theorem bd_123_24 : decode (bn_b 123) 24 = .ok (.iload_n 3, 1) := by decide +kernel
theorem bd_123_25 : decode (bn_b 123) 25 = .ok (.i2l, 1) := by decide +kernel
theorem bd_123_26 : decode (bn_b 123) 26 = .ok (.lconst 0, 1) := by decide +kernel
theorem bd_123_27 : decode (bn_b 123) 27 = .ok (.ldc2_w 203, 3) := by decide +kernel
theorem bd_123_30 : decode (bn_b 123) 30 = .ok (.invokestatic 57, 3) := by decide +kernel
theorem bd_123_33 : decode (bn_b 123) 33 = .ok (.ifCond .ne 6, 3) := by decide +kernel
theorem bd_123_36 : decode (bn_b 123) 36 = .ok (.bipush (-2), 2) := by decide +kernel
theorem bd_123_38 : decode (bn_b 123) 38 = .ok (.ireturn, 1) := by decide +kernel
theorem bd_123_39 : decode (bn_b 123) 39 = .ok (.iconst 0, 1) := by decide +kernel
theorem bd_123_40 : decode (bn_b 123) 40 = .ok (.istore 5, 2) := by decide +kernel
theorem bd_123_42 : decode (bn_b 123) 42 = .ok (.iconst 1, 1) := by decide +kernel
theorem bd_123_43 : decode (bn_b 123) 43 = .ok (.istore 6, 2) := by decide +kernel
theorem bd_123_45 : decode (bn_b 123) 45 = .ok (.iload 6, 2) := by decide +kernel
theorem bd_123_47 : decode (bn_b 123) 47 = .ok (.iload_n 2, 1) := by decide +kernel
theorem bd_123_48 : decode (bn_b 123) 48 = .ok (.if_icmp .gt 38, 3) := by decide +kernel
theorem bd_123_51 : decode (bn_b 123) 51 = .ok (.iload 5, 2) := by decide +kernel
theorem bd_123_53 : decode (bn_b 123) 53 = .ok (.iload 6, 2) := by decide +kernel
theorem bd_123_55 : decode (bn_b 123) 55 = .ok (.invokestatic 152, 3) := by decide +kernel
theorem bd_123_58 : decode (bn_b 123) 58 = .ok (.iload 6, 2) := by decide +kernel
theorem bd_123_60 : decode (bn_b 123) 60 = .ok (.if_icmp .eq 16, 3) := by decide +kernel
theorem bd_123_63 : decode (bn_b 123) 63 = .ok (.iload 6, 2) := by decide +kernel
theorem bd_123_65 : decode (bn_b 123) 65 = .ok (.invokestatic 152, 3) := by decide +kernel
theorem bd_123_68 : decode (bn_b 123) 68 = .ok (.iload_n 1, 1) := by decide +kernel
theorem bd_123_69 : decode (bn_b 123) 69 = .ok (.if_icmp .ne 7, 3) := by decide +kernel
theorem bd_123_72 : decode (bn_b 123) 72 = .ok (.iload_n 3, 1) := by decide +kernel
theorem bd_123_73 : decode (bn_b 123) 73 = .ok (.goto 4, 3) := by decide +kernel
theorem bd_123_76 : decode (bn_b 123) 76 = .ok (.iconst 0, 1) := by decide +kernel
theorem bd_123_77 : decode (bn_b 123) 77 = .ok (.iadd, 1) := by decide +kernel
theorem bd_123_78 : decode (bn_b 123) 78 = .ok (.istore 5, 2) := by decide +kernel
theorem bd_123_80 : decode (bn_b 123) 80 = .ok (.iinc 6 1, 3) := by decide +kernel
theorem bd_123_83 : decode (bn_b 123) 83 = .ok (.goto (-38), 3) := by decide +kernel
theorem bd_123_86 : decode (bn_b 123) 86 = .ok (.iload 5, 2) := by decide +kernel
theorem bd_123_88 : decode (bn_b 123) 88 = .ok (.iload_n 1, 1) := by decide +kernel
theorem bd_123_89 : decode (bn_b 123) 89 = .ok (.iload_n 2, 1) := by decide +kernel
theorem bd_123_90 : decode (bn_b 123) 90 = .ok (.if_icmp .le 7, 3) := by decide +kernel
theorem bd_123_93 : decode (bn_b 123) 93 = .ok (.iconst 0, 1) := by decide +kernel
theorem bd_123_94 : decode (bn_b 123) 94 = .ok (.goto 20, 3) := by decide +kernel
theorem bd_123_97 : decode (bn_b 123) 97 = .ok (.iload_n 1, 1) := by decide +kernel
theorem bd_123_98 : decode (bn_b 123) 98 = .ok (.invokestatic 152, 3) := by decide +kernel
theorem bd_123_101 : decode (bn_b 123) 101 = .ok (.iload_n 1, 1) := by decide +kernel
theorem bd_123_102 : decode (bn_b 123) 102 = .ok (.if_icmp .eq 10, 3) := by decide +kernel
theorem bd_123_105 : decode (bn_b 123) 105 = .ok (.bipush 10, 2) := by decide +kernel
theorem bd_123_107 : decode (bn_b 123) 107 = .ok (.iload_n 3, 1) := by decide +kernel
theorem bd_123_108 : decode (bn_b 123) 108 = .ok (.isub, 1) := by decide +kernel
theorem bd_123_109 : decode (bn_b 123) 109 = .ok (.goto 5, 3) := by decide +kernel
theorem bd_123_112 : decode (bn_b 123) 112 = .ok (.bipush 10, 2) := by decide +kernel
theorem bd_123_114 : decode (bn_b 123) 114 = .ok (.iadd, 1) := by decide +kernel
theorem bd_123_115 : decode (bn_b 123) 115 = .ok (.istore 6, 2) := by decide +kernel
theorem bd_123_117 : decode (bn_b 123) 117 = .ok (.iload 6, 2) := by decide +kernel
theorem bd_123_119 : decode (bn_b 123) 119 = .ok (.ifCond .ne 6, 3) := by decide +kernel
theorem bd_123_122 : decode (bn_b 123) 122 = .ok (.bipush (-3), 2) := by decide +kernel
theorem bd_123_124 : decode (bn_b 123) 124 = .ok (.ireturn, 1) := by decide +kernel
theorem bd_123_125 : decode (bn_b 123) 125 = .ok (.iload 4, 2) := by decide +kernel
theorem bd_123_127 : decode (bn_b 123) 127 = .ok (.ifCond .eq 16, 3) := by decide +kernel
theorem bd_123_130 : decode (bn_b 123) 130 = .ok (.iload 5, 2) := by decide +kernel
theorem bd_123_132 : decode (bn_b 123) 132 = .ok (.iload 5, 2) := by decide +kernel
theorem bd_123_134 : decode (bn_b 123) 134 = .ok (.iload 6, 2) := by decide +kernel
theorem bd_123_136 : decode (bn_b 123) 136 = .ok (.invokestatic 205, 3) := by decide +kernel
theorem bd_123_139 : decode (bn_b 123) 139 = .ok (.idiv, 1) := by decide +kernel
theorem bd_123_140 : decode (bn_b 123) 140 = .ok (.goto 13, 3) := by decide +kernel
theorem bd_123_143 : decode (bn_b 123) 143 = .ok (.iload 6, 2) := by decide +kernel
theorem bd_123_145 : decode (bn_b 123) 145 = .ok (.iload 5, 2) := by decide +kernel
theorem bd_123_147 : decode (bn_b 123) 147 = .ok (.iload 6, 2) := by decide +kernel
theorem bd_123_149 : decode (bn_b 123) 149 = .ok (.invokestatic 205, 3) := by decide +kernel
theorem bd_123_152 : decode (bn_b 123) 152 = .ok (.idiv, 1) := by decide +kernel
theorem bd_123_153 : decode (bn_b 123) 153 = .ok (.ireturn, 1) := by decide +kernel
theorem bd_124_0 : decode (bn_b 124) 0 = .ok (.lconst 1, 1) := by decide +kernel
theorem bd_124_1 : decode (bn_b 124) 1 = .ok (.lstore_n 2, 1) := by decide +kernel
theorem bd_124_2 : decode (bn_b 124) 2 = .ok (.iconst 0, 1) := by decide +kernel
theorem bd_124_3 : decode (bn_b 124) 3 = .ok (.istore 4, 2) := by decide +kernel
theorem bd_124_5 : decode (bn_b 124) 5 = .ok (.iload 4, 2) := by decide +kernel
theorem bd_124_7 : decode (bn_b 124) 7 = .ok (.iload_n 1, 1) := by decide +kernel
theorem bd_124_8 : decode (bn_b 124) 8 = .ok (.if_icmp .ge 14, 3) := by decide +kernel
theorem bd_124_11 : decode (bn_b 124) 11 = .ok (.lload_n 2, 1) := by decide +kernel
theorem bd_124_12 : decode (bn_b 124) 12 = .ok (.iload_n 0, 1) := by decide +kernel
theorem bd_124_13 : decode (bn_b 124) 13 = .ok (.i2l, 1) := by decide +kernel
theorem bd_124_14 : decode (bn_b 124) 14 = .ok (.lmul, 1) := by decide +kernel
theorem bd_124_15 : decode (bn_b 124) 15 = .ok (.lstore_n 2, 1) := by decide +kernel
theorem bd_124_16 : decode (bn_b 124) 16 = .ok (.iinc 4 1, 3) := by decide +kernel
theorem bd_124_19 : decode (bn_b 124) 19 = .ok (.goto (-14), 3) := by decide +kernel
theorem bd_124_22 : decode (bn_b 124) 22 = .ok (.lload_n 2, 1) := by decide +kernel
theorem bd_124_23 : decode (bn_b 124) 23 = .ok (.lreturn, 1) := by decide +kernel
theorem bd_125_0 : decode (bn_b 125) 0 = .ok (.iload_n 1, 1) := by decide +kernel
theorem bd_125_1 : decode (bn_b 125) 1 = .ok (.i2l, 1) := by decide +kernel
theorem bd_125_2 : decode (bn_b 125) 2 = .ok (.lconst 0, 1) := by decide +kernel
theorem bd_125_3 : decode (bn_b 125) 3 = .ok (.ldc2_w 203, 3) := by decide +kernel
theorem bd_125_6 : decode (bn_b 125) 6 = .ok (.invokestatic 57, 3) := by decide +kernel
theorem bd_125_9 : decode (bn_b 125) 9 = .ok (.ifCond .ne 7, 3) := by decide +kernel
theorem bd_125_12 : decode (bn_b 125) 12 = .ok (.ldc2_w 208, 3) := by decide +kernel
theorem bd_125_15 : decode (bn_b 125) 15 = .ok (.lreturn, 1) := by decide +kernel
theorem bd_125_16 : decode (bn_b 125) 16 = .ok (.aload_n 0, 1) := by decide +kernel
theorem bd_125_17 : decode (bn_b 125) 17 = .ok (.invokevirtual 178, 3) := by decide +kernel
theorem bd_125_20 : decode (bn_b 125) 20 = .ok (.istore_n 3, 1) := by decide +kernel
theorem bd_125_21 : decode (bn_b 125) 21 = .ok (.iload_n 3, 1) := by decide +kernel
theorem bd_125_22 : decode (bn_b 125) 22 = .ok (.ifCond .ne 7, 3) := by decide +kernel
theorem bd_125_25 : decode (bn_b 125) 25 = .ok (.ldc2_w 210, 3) := by decide +kernel
theorem bd_125_28 : decode (bn_b 125) 28 = .ok (.lreturn, 1) := by decide +kernel
theorem bd_125_29 : decode (bn_b 125) 29 = .ok (.iload_n 3, 1) := by decide +kernel
theorem bd_125_30 : decode (bn_b 125) 30 = .ok (.bipush (-9), 2) := by decide +kernel
theorem bd_125_32 : decode (bn_b 125) 32 = .ok (.if_icmp .eq 9, 3) := by decide +kernel
theorem bd_125_35 : decode (bn_b 125) 35 = .ok (.iload_n 3, 1) := by decide +kernel
theorem bd_125_36 : decode (bn_b 125) 36 = .ok (.bipush 18, 2) := by decide +kernel
theorem bd_125_38 : decode (bn_b 125) 38 = .ok (.if_icmp .le 8, 3) := by decide +kernel
theorem bd_125_41 : decode (bn_b 125) 41 = .ok (.bipush 18, 2) := by decide +kernel
theorem bd_125_43 : decode (bn_b 125) 43 = .ok (.goto 6, 3) := by decide +kernel
theorem bd_125_46 : decode (bn_b 125) 46 = .ok (.iload_n 3, 1) := by decide +kernel
theorem bd_125_47 : decode (bn_b 125) 47 = .ok (.iconst 1, 1) := by decide +kernel
theorem bd_125_48 : decode (bn_b 125) 48 = .ok (.isub, 1) := by decide +kernel
theorem bd_125_49 : decode (bn_b 125) 49 = .ok (.istore 4, 2) := by decide +kernel
theorem bd_125_51 : decode (bn_b 125) 51 = .ok (.bipush 10, 2) := by decide +kernel
theorem bd_125_53 : decode (bn_b 125) 53 = .ok (.iload 4, 2) := by decide +kernel
theorem bd_125_55 : decode (bn_b 125) 55 = .ok (.invokestatic 212, 3) := by decide +kernel
theorem bd_125_58 : decode (bn_b 125) 58 = .ok (.lstore 5, 2) := by decide +kernel
theorem bd_125_60 : decode (bn_b 125) 60 = .ok (.lload 5, 2) := by decide +kernel
theorem bd_125_62 : decode (bn_b 125) 62 = .ok (.bipush 10, 2) := by decide +kernel
theorem bd_125_64 : decode (bn_b 125) 64 = .ok (.iload_n 1, 1) := by decide +kernel
theorem bd_125_65 : decode (bn_b 125) 65 = .ok (.isub, 1) := by decide +kernel
theorem bd_125_66 : decode (bn_b 125) 66 = .ok (.iload 4, 2) := by decide +kernel
theorem bd_125_68 : decode (bn_b 125) 68 = .ok (.invokestatic 212, 3) := by decide +kernel
theorem bd_125_71 : decode (bn_b 125) 71 = .ok (.lsub, 1) := by decide +kernel
theorem bd_125_72 : decode (bn_b 125) 72 = .ok (.lstore 7, 2) := by decide +kernel
theorem bd_125_74 : decode (bn_b 125) 74 = .ok (.lload 7, 2) := by decide +kernel
theorem bd_125_76 : decode (bn_b 125) 76 = .ok (.lstore 9, 2) := by decide +kernel
theorem bd_125_78 : decode (bn_b 125) 78 = .ok (.lload 5, 2) := by decide +kernel
theorem bd_125_80 : decode (bn_b 125) 80 = .ok (.lstore 11, 2) := by decide +kernel
theorem bd_125_82 : decode (bn_b 125) 82 = .ok (.lload 11, 2) := by decide +kernel
theorem bd_125_84 : decode (bn_b 125) 84 = .ok (.lconst 0, 1) := by decide +kernel
theorem bd_125_85 : decode (bn_b 125) 85 = .ok (.lcmp, 1) := by decide +kernel
theorem bd_125_86 : decode (bn_b 125) 86 = .ok (.ifCond .eq 21, 3) := by decide +kernel
theorem bd_125_89 : decode (bn_b 125) 89 = .ok (.lload 9, 2) := by decide +kernel
theorem bd_125_91 : decode (bn_b 125) 91 = .ok (.lload 11, 2) := by decide +kernel
theorem bd_125_93 : decode (bn_b 125) 93 = .ok (.lrem, 1) := by decide +kernel
theorem bd_125_94 : decode (bn_b 125) 94 = .ok (.lstore 13, 2) := by decide +kernel
theorem bd_125_96 : decode (bn_b 125) 96 = .ok (.lload 11, 2) := by decide +kernel
theorem bd_125_98 : decode (bn_b 125) 98 = .ok (.lstore 9, 2) := by decide +kernel
theorem bd_125_100 : decode (bn_b 125) 100 = .ok (.lload 13, 2) := by decide +kernel
theorem bd_125_102 : decode (bn_b 125) 102 = .ok (.lstore 11, 2) := by decide +kernel
theorem bd_125_104 : decode (bn_b 125) 104 = .ok (.goto (-22), 3) := by decide +kernel
theorem bd_125_107 : decode (bn_b 125) 107 = .ok (.iload_n 2, 1) := by decide +kernel
theorem bd_125_108 : decode (bn_b 125) 108 = .ok (.ifCond .eq 11, 3) := by decide +kernel
theorem bd_125_111 : decode (bn_b 125) 111 = .ok (.lload 7, 2) := by decide +kernel
theorem bd_125_113 : decode (bn_b 125) 113 = .ok (.lload 9, 2) := by decide +kernel
theorem bd_125_115 : decode (bn_b 125) 115 = .ok (.ldiv, 1) := by decide +kernel
theorem bd_125_116 : decode (bn_b 125) 116 = .ok (.goto 8, 3) := by decide +kernel
theorem bd_125_119 : decode (bn_b 125) 119 = .ok (.lload 5, 2) := by decide +kernel
theorem bd_125_121 : decode (bn_b 125) 121 = .ok (.lload 9, 2) := by decide +kernel
theorem bd_125_123 : decode (bn_b 125) 123 = .ok (.ldiv, 1) := by decide +kernel
theorem bd_125_124 : decode (bn_b 125) 124 = .ok (.lreturn, 1) := by decide +kernel
theorem bd_126_0 : decode (bn_b 126) 0 = .ok (.iload_n 1, 1) := by decide +kernel
theorem bd_126_1 : decode (bn_b 126) 1 = .ok (.i2l, 1) := by decide +kernel
theorem bd_126_2 : decode (bn_b 126) 2 = .ok (.lconst 0, 1) := by decide +kernel
theorem bd_126_3 : decode (bn_b 126) 3 = .ok (.lconst 1, 1) := by decide +kernel
theorem bd_126_4 : decode (bn_b 126) 4 = .ok (.invokestatic 57, 3) := by decide +kernel
theorem bd_126_7 : decode (bn_b 126) 7 = .ok (.ifCond .ne 5, 3) := by decide +kernel
theorem bd_126_10 : decode (bn_b 126) 10 = .ok (.iconst (-1), 1) := by decide +kernel
theorem bd_126_11 : decode (bn_b 126) 11 = .ok (.ireturn, 1) := by decide +kernel
theorem bd_126_12 : decode (bn_b 126) 12 = .ok (.aload_n 0, 1) := by decide +kernel
theorem bd_126_13 : decode (bn_b 126) 13 = .ok (.getfield 39, 3) := by decide +kernel
theorem bd_126_16 : decode (bn_b 126) 16 = .ok (.iload_n 1, 1) := by decide +kernel
theorem bd_126_17 : decode (bn_b 126) 17 = .ok (.iconst 1, 1) := by decide +kernel
theorem bd_126_18 : decode (bn_b 126) 18 = .ok (.bastore, 1) := by decide +kernel
theorem bd_126_19 : decode (bn_b 126) 19 = .ok (.iconst 0, 1) := by decide +kernel
theorem bd_126_20 : decode (bn_b 126) 20 = .ok (.istore_n 2, 1) := by decide +kernel
theorem bd_126_21 : decode (bn_b 126) 21 = .ok (.iload_n 2, 1) := by decide +kernel
theorem bd_126_22 : decode (bn_b 126) 22 = .ok (.bipush 71, 2) := by decide +kernel
theorem bd_126_24 : decode (bn_b 126) 24 = .ok (.if_icmp .ge 26, 3) := by decide +kernel
theorem bd_126_27 : decode (bn_b 126) 27 = .ok (.aload_n 0, 1) := by decide +kernel
theorem bd_126_28 : decode (bn_b 126) 28 = .ok (.getfield 42, 3) := by decide +kernel
theorem bd_126_31 : decode (bn_b 126) 31 = .ok (.bipush 72, 2) := by decide +kernel
theorem bd_126_33 : decode (bn_b 126) 33 = .ok (.iload_n 1, 1) := by decide +kernel
theorem bd_126_34 : decode (bn_b 126) 34 = .ok (.imul, 1) := by decide +kernel
theorem bd_126_35 : decode (bn_b 126) 35 = .ok (.iload_n 2, 1) := by decide +kernel
theorem bd_126_36 : decode (bn_b 126) 36 = .ok (.iadd, 1) := by decide +kernel
theorem bd_126_37 : decode (bn_b 126) 37 = .ok (.aload_n 0, 1) := by decide +kernel
theorem bd_126_38 : decode (bn_b 126) 38 = .ok (.getfield 13, 3) := by decide +kernel
theorem bd_126_41 : decode (bn_b 126) 41 = .ok (.iload_n 2, 1) := by decide +kernel
theorem bd_126_42 : decode (bn_b 126) 42 = .ok (.iaload, 1) := by decide +kernel
theorem bd_126_43 : decode (bn_b 126) 43 = .ok (.iastore, 1) := by decide +kernel
theorem bd_126_44 : decode (bn_b 126) 44 = .ok (.iinc 2 1, 3) := by decide +kernel
theorem bd_126_47 : decode (bn_b 126) 47 = .ok (.goto (-26), 3) := by decide +kernel
theorem bd_126_50 : decode (bn_b 126) 50 = .ok (.aload_n 0, 1) := by decide +kernel
theorem bd_126_51 : decode (bn_b 126) 51 = .ok (.getfield 45, 3) := by decide +kernel
theorem bd_126_54 : decode (bn_b 126) 54 = .ok (.iload_n 1, 1) := by decide +kernel
theorem bd_126_55 : decode (bn_b 126) 55 = .ok (.aload_n 0, 1) := by decide +kernel
theorem bd_126_56 : decode (bn_b 126) 56 = .ok (.getfield 134, 3) := by decide +kernel
theorem bd_126_59 : decode (bn_b 126) 59 = .ok (.lastore, 1) := by decide +kernel
theorem bd_126_60 : decode (bn_b 126) 60 = .ok (.aload_n 0, 1) := by decide +kernel
theorem bd_126_61 : decode (bn_b 126) 61 = .ok (.getfield 13, 3) := by decide +kernel
theorem bd_126_64 : decode (bn_b 126) 64 = .ok (.bipush 70, 2) := by decide +kernel
theorem bd_126_66 : decode (bn_b 126) 66 = .ok (.iaload, 1) := by decide +kernel
theorem bd_126_67 : decode (bn_b 126) 67 = .ok (.ireturn, 1) := by decide +kernel
theorem bd_127_0 : decode (bn_b 127) 0 = .ok (.iload_n 1, 1) := by decide +kernel
theorem bd_127_1 : decode (bn_b 127) 1 = .ok (.i2l, 1) := by decide +kernel
theorem bd_127_2 : decode (bn_b 127) 2 = .ok (.lconst 0, 1) := by decide +kernel
theorem bd_127_3 : decode (bn_b 127) 3 = .ok (.lconst 1, 1) := by decide +kernel
theorem bd_127_4 : decode (bn_b 127) 4 = .ok (.invokestatic 57, 3) := by decide +kernel
theorem bd_127_7 : decode (bn_b 127) 7 = .ok (.ifCond .ne 5, 3) := by decide +kernel
theorem bd_127_10 : decode (bn_b 127) 10 = .ok (.iconst (-1), 1) := by decide +kernel
theorem bd_127_11 : decode (bn_b 127) 11 = .ok (.ireturn, 1) := by decide +kernel
theorem bd_127_12 : decode (bn_b 127) 12 = .ok (.aload_n 0, 1) := by decide +kernel
theorem bd_127_13 : decode (bn_b 127) 13 = .ok (.getfield 39, 3) := by decide +kernel
theorem bd_127_16 : decode (bn_b 127) 16 = .ok (.iload_n 1, 1) := by decide +kernel
theorem bd_127_17 : decode (bn_b 127) 17 = .ok (.baload, 1) := by decide +kernel
theorem bd_127_18 : decode (bn_b 127) 18 = .ok (.ifCond .ne 6, 3) := by decide +kernel
theorem bd_127_21 : decode (bn_b 127) 21 = .ok (.bipush (-3), 2) := by decide +kernel
theorem bd_127_23 : decode (bn_b 127) 23 = .ok (.ireturn, 1) := by decide +kernel
theorem bd_127_24 : decode (bn_b 127) 24 = .ok (.iconst 0, 1) := by decide +kernel
theorem bd_127_25 : decode (bn_b 127) 25 = .ok (.istore_n 2, 1) := by decide +kernel
theorem bd_127_26 : decode (bn_b 127) 26 = .ok (.iload_n 2, 1) := by decide +kernel
theorem bd_127_27 : decode (bn_b 127) 27 = .ok (.bipush 71, 2) := by decide +kernel
theorem bd_127_29 : decode (bn_b 127) 29 = .ok (.if_icmp .ge 26, 3) := by decide +kernel
theorem bd_127_32 : decode (bn_b 127) 32 = .ok (.aload_n 0, 1) := by decide +kernel
theorem bd_127_33 : decode (bn_b 127) 33 = .ok (.getfield 13, 3) := by decide +kernel
theorem bd_127_36 : decode (bn_b 127) 36 = .ok (.iload_n 2, 1) := by decide +kernel
theorem bd_127_37 : decode (bn_b 127) 37 = .ok (.aload_n 0, 1) := by decide +kernel
theorem bd_127_38 : decode (bn_b 127) 38 = .ok (.getfield 42, 3) := by decide +kernel
theorem bd_127_41 : decode (bn_b 127) 41 = .ok (.bipush 72, 2) := by decide +kernel
theorem bd_127_43 : decode (bn_b 127) 43 = .ok (.iload_n 1, 1) := by decide +kernel
theorem bd_127_44 : decode (bn_b 127) 44 = .ok (.imul, 1) := by decide +kernel
theorem bd_127_45 : decode (bn_b 127) 45 = .ok (.iload_n 2, 1) := by decide +kernel
theorem bd_127_46 : decode (bn_b 127) 46 = .ok (.iadd, 1) := by decide +kernel
theorem bd_127_47 : decode (bn_b 127) 47 = .ok (.iaload, 1) := by decide +kernel
theorem bd_127_48 : decode (bn_b 127) 48 = .ok (.iastore, 1) := by decide +kernel
theorem bd_127_49 : decode (bn_b 127) 49 = .ok (.iinc 2 1, 3) := by decide +kernel
theorem bd_127_52 : decode (bn_b 127) 52 = .ok (.goto (-26), 3) := by decide +kernel
theorem bd_127_55 : decode (bn_b 127) 55 = .ok (.aload_n 0, 1) := by decide +kernel
theorem bd_127_56 : decode (bn_b 127) 56 = .ok (.aload_n 0, 1) := by decide +kernel
theorem bd_127_57 : decode (bn_b 127) 57 = .ok (.getfield 45, 3) := by decide +kernel
theorem bd_127_60 : decode (bn_b 127) 60 = .ok (.iload_n 1, 1) := by decide +kernel
theorem bd_127_61 : decode (bn_b 127) 61 = .ok (.laload, 1) := by decide +kernel
theorem bd_127_62 : decode (bn_b 127) 62 = .ok (.putfield 134, 3) := by decide +kernel
theorem bd_127_65 : decode (bn_b 127) 65 = .ok (.aload_n 0, 1) := by decide +kernel
theorem bd_127_66 : decode (bn_b 127) 66 = .ok (.iconst 0, 1) := by decide +kernel
theorem bd_127_67 : decode (bn_b 127) 67 = .ok (.putfield 112, 3) := by decide +kernel
theorem bd_127_70 : decode (bn_b 127) 70 = .ok (.aload_n 0, 1) := by decide +kernel
theorem bd_127_71 : decode (bn_b 127) 71 = .ok (.getfield 13, 3) := by decide +kernel
theorem bd_127_74 : decode (bn_b 127) 74 = .ok (.bipush 70, 2) := by decide +kernel
theorem bd_127_76 : decode (bn_b 127) 76 = .ok (.iaload, 1) := by decide +kernel
theorem bd_127_77 : decode (bn_b 127) 77 = .ok (.ireturn, 1) := by decide +kernel
theorem bd_128_0 : decode (bn_b 128) 0 = .ok (.iconst 0, 1) := by decide +kernel
theorem bd_128_1 : decode (bn_b 128) 1 = .ok (.istore_n 2, 1) := by decide +kernel
theorem bd_128_2 : decode (bn_b 128) 2 = .ok (.iconst 0, 1) := by decide +kernel
theorem bd_128_3 : decode (bn_b 128) 3 = .ok (.istore_n 3, 1) := by decide +kernel
theorem bd_128_4 : decode (bn_b 128) 4 = .ok (.iconst 0, 1) := by decide +kernel
theorem bd_128_5 : decode (bn_b 128) 5 = .ok (.istore 4, 2) := by decide +kernel
theorem bd_128_7 : decode (bn_b 128) 7 = .ok (.iconst 0, 1) := by decide +kernel
theorem bd_128_8 : decode (bn_b 128) 8 = .ok (.istore 5, 2) := by decide +kernel
theorem bd_128_10 : decode (bn_b 128) 10 = .ok (.iload 5, 2) := by decide +kernel
theorem bd_128_12 : decode (bn_b 128) 12 = .ok (.aload_n 0, 1) := by decide +kernel
theorem bd_128_13 : decode (bn_b 128) 13 = .ok (.getfield 109, 3) := by decide +kernel
theorem bd_128_16 : decode (bn_b 128) 16 = .ok (.if_icmp .ge 56, 3) := by decide +kernel
theorem bd_128_19 : decode (bn_b 128) 19 = .ok (.iload_n 2, 1) := by decide +kernel
theorem bd_128_20 : decode (bn_b 128) 20 = .ok (.aload_n 0, 1) := by decide +kernel
theorem bd_128_21 : decode (bn_b 128) 21 = .ok (.iload 5, 2) := by decide +kernel
theorem bd_128_23 : decode (bn_b 128) 23 = .ok (.invokevirtual 115, 3) := by decide +kernel
theorem bd_128_26 : decode (bn_b 128) 26 = .ok (.bipush 20, 2) := by decide +kernel
theorem bd_128_28 : decode (bn_b 128) 28 = .ok (.if_icmp .ne 7, 3) := by decide +kernel
theorem bd_128_31 : decode (bn_b 128) 31 = .ok (.iconst 1, 1) := by decide +kernel
theorem bd_128_32 : decode (bn_b 128) 32 = .ok (.goto 4, 3) := by decide +kernel
theorem bd_128_35 : decode (bn_b 128) 35 = .ok (.iconst 0, 1) := by decide +kernel
theorem bd_128_36 : decode (bn_b 128) 36 = .ok (.iadd, 1) := by decide +kernel
theorem bd_128_37 : decode (bn_b 128) 37 = .ok (.istore_n 2, 1) := by decide +kernel
theorem bd_128_38 : decode (bn_b 128) 38 = .ok (.iload_n 3, 1) := by decide +kernel
theorem bd_128_39 : decode (bn_b 128) 39 = .ok (.aload_n 0, 1) := by decide +kernel
theorem bd_128_40 : decode (bn_b 128) 40 = .ok (.iload 5, 2) := by decide +kernel
theorem bd_128_42 : decode (bn_b 128) 42 = .ok (.invokevirtual 115, 3) := by decide +kernel
theorem bd_128_45 : decode (bn_b 128) 45 = .ok (.bipush 20, 2) := by decide +kernel
theorem bd_128_47 : decode (bn_b 128) 47 = .ok (.if_icmp .eq 16, 3) := by decide +kernel
theorem bd_128_50 : decode (bn_b 128) 50 = .ok (.aload_n 0, 1) := by decide +kernel
theorem bd_128_51 : decode (bn_b 128) 51 = .ok (.iload 5, 2) := by decide +kernel
theorem bd_128_53 : decode (bn_b 128) 53 = .ok (.invokevirtual 128, 3) := by decide +kernel
theorem bd_128_56 : decode (bn_b 128) 56 = .ok (.ifCond .eq 7, 3) := by decide +kernel
theorem bd_128_59 : decode (bn_b 128) 59 = .ok (.iconst 1, 1) := by decide +kernel
theorem bd_128_60 : decode (bn_b 128) 60 = .ok (.goto 4, 3) := by decide +kernel
theorem bd_128_63 : decode (bn_b 128) 63 = .ok (.iconst 0, 1) := by decide +kernel
theorem bd_128_64 : decode (bn_b 128) 64 = .ok (.iadd, 1) := by decide +kernel
theorem bd_128_65 : decode (bn_b 128) 65 = .ok (.istore_n 3, 1) := by decide +kernel
theorem bd_128_66 : decode (bn_b 128) 66 = .ok (.iinc 5 1, 3) := by decide +kernel
theorem bd_128_69 : decode (bn_b 128) 69 = .ok (.goto (-59), 3) := by decide +kernel
theorem bd_128_72 : decode (bn_b 128) 72 = .ok (.iconst 1, 1) := by decide +kernel
theorem bd_128_73 : decode (bn_b 128) 73 = .ok (.istore 5, 2) := by decide +kernel
theorem bd_128_75 : decode (bn_b 128) 75 = .ok (.iload 5, 2) := by decide +kernel
theorem bd_128_77 : decode (bn_b 128) 77 = .ok (.aload_n 0, 1) := by decide +kernel
theorem bd_128_78 : decode (bn_b 128) 78 = .ok (.invokevirtual 195, 3) := by decide +kernel
theorem bd_128_81 : decode (bn_b 128) 81 = .ok (.if_icmp .ge 28, 3) := by decide +kernel
theorem bd_128_84 : decode (bn_b 128) 84 = .ok (.iload 4, 2) := by decide +kernel
theorem bd_128_86 : decode (bn_b 128) 86 = .ok (.aload_n 0, 1) := by decide +kernel
theorem bd_128_87 : decode (bn_b 128) 87 = .ok (.iload 5, 2) := by decide +kernel
theorem bd_128_89 : decode (bn_b 128) 89 = .ok (.invokevirtual 198, 3) := by decide +kernel
theorem bd_128_92 : decode (bn_b 128) 92 = .ok (.ifCond .eq 7, 3) := by decide +kernel
theorem bd_128_95 : decode (bn_b 128) 95 = .ok (.iconst 0, 1) := by decide +kernel
theorem bd_128_96 : decode (bn_b 128) 96 = .ok (.goto 4, 3) := by decide +kernel
theorem bd_128_99 : decode (bn_b 128) 99 = .ok (.iconst 1, 1) := by decide +kernel
theorem bd_128_100 : decode (bn_b 128) 100 = .ok (.iadd, 1) := by decide +kernel
theorem bd_128_101 : decode (bn_b 128) 101 = .ok (.istore 4, 2) := by decide +kernel
theorem bd_128_103 : decode (bn_b 128) 103 = .ok (.iinc 5 1, 3) := by decide +kernel
theorem bd_128_106 : decode (bn_b 128) 106 = .ok (.goto (-31), 3) := by decide +kernel
theorem bd_128_109 : decode (bn_b 128) 109 = .ok (.iload_n 1, 1) := by decide +kernel
theorem bd_128_110 : decode (bn_b 128) 110 = .ok (.tableswitch 99 0 9 #[54, 59, 64, 69, 74, 82, 84, 86, 91, 94], 54) := by decide +kernel
theorem bd_128_164 : decode (bn_b 128) 164 = .ok (.aload_n 0, 1) := by decide +kernel
theorem bd_128_165 : decode (bn_b 128) 165 = .ok (.getfield 61, 3) := by decide +kernel
theorem bd_128_168 : decode (bn_b 128) 168 = .ok (.ireturn, 1) := by decide +kernel
theorem bd_128_169 : decode (bn_b 128) 169 = .ok (.aload_n 0, 1) := by decide +kernel
theorem bd_128_170 : decode (bn_b 128) 170 = .ok (.getfield 106, 3) := by decide +kernel
theorem bd_128_173 : decode (bn_b 128) 173 = .ok (.ireturn, 1) := by decide +kernel
theorem bd_128_174 : decode (bn_b 128) 174 = .ok (.aload_n 0, 1) := by decide +kernel
theorem bd_128_175 : decode (bn_b 128) 175 = .ok (.getfield 109, 3) := by decide +kernel
theorem bd_128_178 : decode (bn_b 128) 178 = .ok (.ireturn, 1) := by decide +kernel
theorem bd_128_179 : decode (bn_b 128) 179 = .ok (.aload_n 0, 1) := by decide +kernel
theorem bd_128_180 : decode (bn_b 128) 180 = .ok (.invokevirtual 158, 3) := by decide +kernel
theorem bd_128_183 : decode (bn_b 128) 183 = .ok (.ireturn, 1) := by decide +kernel
theorem bd_128_184 : decode (bn_b 128) 184 = .ok (.aload_n 0, 1) := by decide +kernel
theorem bd_128_185 : decode (bn_b 128) 185 = .ok (.getfield 13, 3) := by decide +kernel
theorem bd_128_188 : decode (bn_b 128) 188 = .ok (.bipush 70, 2) := by decide +kernel
theorem bd_128_190 : decode (bn_b 128) 190 = .ok (.iaload, 1) := by decide +kernel
theorem bd_128_191 : decode (bn_b 128) 191 = .ok (.ireturn, 1) := by decide +kernel
theorem bd_128_192 : decode (bn_b 128) 192 = .ok (.iload_n 2, 1) := by decide +kernel
theorem bd_128_193 : decode (bn_b 128) 193 = .ok (.ireturn, 1) := by decide +kernel
theorem bd_128_194 : decode (bn_b 128) 194 = .ok (.iload_n 3, 1) := by decide +kernel
theorem bd_128_195 : decode (bn_b 128) 195 = .ok (.ireturn, 1) := by decide +kernel
theorem bd_128_196 : decode (bn_b 128) 196 = .ok (.aload_n 0, 1) := by decide +kernel
theorem bd_128_197 : decode (bn_b 128) 197 = .ok (.getfield 112, 3) := by decide +kernel
theorem bd_128_200 : decode (bn_b 128) 200 = .ok (.ireturn, 1) := by decide +kernel
theorem bd_128_201 : decode (bn_b 128) 201 = .ok (.iload 4, 2) := by decide +kernel
theorem bd_128_203 : decode (bn_b 128) 203 = .ok (.ireturn, 1) := by decide +kernel
theorem bd_128_204 : decode (bn_b 128) 204 = .ok (.aload_n 0, 1) := by decide +kernel
theorem bd_128_205 : decode (bn_b 128) 205 = .ok (.getfield 103, 3) := by decide +kernel
theorem bd_128_208 : decode (bn_b 128) 208 = .ok (.ireturn, 1) := by decide +kernel
theorem bd_128_209 : decode (bn_b 128) 209 = .ok (.bipush (-2), 2) := by decide +kernel
theorem bd_128_211 : decode (bn_b 128) 211 = .ok (.ireturn, 1) := by decide +kernel
