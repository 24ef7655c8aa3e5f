/-! decode rows -/
theorem bd_0_0 : decode (bn_b 0) 0 = .ok (.aload_n 0, 1) := by decide +kernel
theorem bd_0_1 : decode (bn_b 0) 1 = .ok (.invokespecial 3, 3) := by decide +kernel
theorem bd_0_4 : decode (bn_b 0) 4 = .ok (.aload_n 0, 1) := by decide +kernel
theorem bd_0_5 : decode (bn_b 0) 5 = .ok (.iconst 0, 1) := by decide +kernel
theorem bd_0_6 : decode (bn_b 0) 6 = .ok (.putfield 9, 3) := by decide +kernel
theorem bd_0_9 : decode (bn_b 0) 9 = .ok (.aload_n 0, 1) := by decide +kernel
theorem bd_0_10 : decode (bn_b 0) 10 = .ok (.bipush 9, 2) := by decide +kernel
theorem bd_0_12 : decode (bn_b 0) 12 = .ok (.putfield 15, 3) := by decide +kernel
theorem bd_0_15 : decode (bn_b 0) 15 = .ok (.aload_n 0, 1) := by decide +kernel
theorem bd_0_16 : decode (bn_b 0) 16 = .ok (.bipush 9, 2) := by decide +kernel
theorem bd_0_18 : decode (bn_b 0) 18 = .ok (.putfield 18, 3) := by decide +kernel
theorem bd_0_21 : decode (bn_b 0) 21 = .ok (.aload_n 0, 1) := by decide +kernel
theorem bd_0_22 : decode (bn_b 0) 22 = .ok (.iconst 0, 1) := by decide +kernel
theorem bd_0_23 : decode (bn_b 0) 23 = .ok (.putfield 21, 3) := by decide +kernel
theorem bd_0_26 : decode (bn_b 0) 26 = .ok (.aload_n 0, 1) := by decide +kernel
theorem bd_0_27 : decode (bn_b 0) 27 = .ok (.lconst 0, 1) := by decide +kernel
theorem bd_0_28 : decode (bn_b 0) 28 = .ok (.putfield 24, 3) := by decide +kernel
theorem bd_0_31 : decode (bn_b 0) 31 = .ok (.aload_n 0, 1) := by decide +kernel
theorem bd_0_32 : decode (bn_b 0) 32 = .ok (.iconst 0, 1) := by decide +kernel
theorem bd_0_33 : decode (bn_b 0) 33 = .ok (.putfield 28, 3) := by decide +kernel
theorem bd_0_36 : decode (bn_b 0) 36 = .ok (.aload_n 0, 1) := by decide +kernel
theorem bd_0_37 : decode (bn_b 0) 37 = .ok (.iconst 5, 1) := by decide +kernel
theorem bd_0_38 : decode (bn_b 0) 38 = .ok (.newarray .int, 2) := by decide +kernel
theorem bd_0_40 : decode (bn_b 0) 40 = .ok (.putfield 31, 3) := by decide +kernel
theorem bd_0_43 : decode (bn_b 0) 43 = .ok (.aload_n 0, 1) := by decide +kernel
theorem bd_0_44 : decode (bn_b 0) 44 = .ok (.iconst 5, 1) := by decide +kernel
theorem bd_0_45 : decode (bn_b 0) 45 = .ok (.newarray .boolean, 2) := by decide +kernel
theorem bd_0_47 : decode (bn_b 0) 47 = .ok (.putfield 35, 3) := by decide +kernel
theorem bd_0_50 : decode (bn_b 0) 50 = .ok (.aload_n 0, 1) := by decide +kernel
theorem bd_0_51 : decode (bn_b 0) 51 = .ok (.iconst 5, 1) := by decide +kernel
theorem bd_0_52 : decode (bn_b 0) 52 = .ok (.newarray .int, 2) := by decide +kernel
theorem bd_0_54 : decode (bn_b 0) 54 = .ok (.putfield 39, 3) := by decide +kernel
theorem bd_0_57 : decode (bn_b 0) 57 = .ok (.aload_n 0, 1) := by decide +kernel
theorem bd_0_58 : decode (bn_b 0) 58 = .ok (.iconst 0, 1) := by decide +kernel
theorem bd_0_59 : decode (bn_b 0) 59 = .ok (.putfield 42, 3) := by decide +kernel
theorem bd_0_62 : decode (bn_b 0) 62 = .ok (.aload_n 0, 1) := by decide +kernel
theorem bd_0_63 : decode (bn_b 0) 63 = .ok (.bipush 10, 2) := by decide +kernel
theorem bd_0_65 : decode (bn_b 0) 65 = .ok (.newarray .int, 2) := by decide +kernel
theorem bd_0_67 : decode (bn_b 0) 67 = .ok (.putfield 45, 3) := by decide +kernel
theorem bd_0_70 : decode (bn_b 0) 70 = .ok (.aload_n 0, 1) := by decide +kernel
theorem bd_0_71 : decode (bn_b 0) 71 = .ok (.bipush 10, 2) := by decide +kernel
theorem bd_0_73 : decode (bn_b 0) 73 = .ok (.newarray .int, 2) := by decide +kernel
theorem bd_0_75 : decode (bn_b 0) 75 = .ok (.putfield 48, 3) := by decide +kernel
theorem bd_0_78 : decode (bn_b 0) 78 = .ok (.aload_n 0, 1) := by decide +kernel
theorem bd_0_79 : decode (bn_b 0) 79 = .ok (.bipush 10, 2) := by decide +kernel
theorem bd_0_81 : decode (bn_b 0) 81 = .ok (.newarray .int, 2) := by decide +kernel
theorem bd_0_83 : decode (bn_b 0) 83 = .ok (.putfield 51, 3) := by decide +kernel
theorem bd_0_86 : decode (bn_b 0) 86 = .ok (.aload_n 0, 1) := by decide +kernel
theorem bd_0_87 : decode (bn_b 0) 87 = .ok (.bipush 10, 2) := by decide +kernel
theorem bd_0_89 : decode (bn_b 0) 89 = .ok (.newarray .int, 2) := by decide +kernel
theorem bd_0_91 : decode (bn_b 0) 91 = .ok (.putfield 54, 3) := by decide +kernel
theorem bd_0_94 : decode (bn_b 0) 94 = .ok (.aload_n 0, 1) := by decide +kernel
theorem bd_0_95 : decode (bn_b 0) 95 = .ok (.bipush 10, 2) := by decide +kernel
theorem bd_0_97 : decode (bn_b 0) 97 = .ok (.newarray .int, 2) := by decide +kernel
theorem bd_0_99 : decode (bn_b 0) 99 = .ok (.putfield 57, 3) := by decide +kernel
theorem bd_0_102 : decode (bn_b 0) 102 = .ok (.return_, 1) := by decide +kernel
theorem bd_1_0 : decode (bn_b 1) 0 = .ok (.aload_n 0, 1) := by decide +kernel
theorem bd_1_1 : decode (bn_b 1) 1 = .ok (.iload_n 1, 1) := by decide +kernel
theorem bd_1_2 : decode (bn_b 1) 2 = .ok (.putfield 9, 3) := by decide +kernel
theorem bd_1_5 : decode (bn_b 1) 5 = .ok (.aload_n 0, 1) := by decide +kernel
theorem bd_1_6 : decode (bn_b 1) 6 = .ok (.iload_n 2, 1) := by decide +kernel
theorem bd_1_7 : decode (bn_b 1) 7 = .ok (.putfield 15, 3) := by decide +kernel
theorem bd_1_10 : decode (bn_b 1) 10 = .ok (.aload_n 0, 1) := by decide +kernel
theorem bd_1_11 : decode (bn_b 1) 11 = .ok (.iload_n 3, 1) := by decide +kernel
theorem bd_1_12 : decode (bn_b 1) 12 = .ok (.putfield 18, 3) := by decide +kernel
theorem bd_1_15 : decode (bn_b 1) 15 = .ok (.aload_n 0, 1) := by decide +kernel
theorem bd_1_16 : decode (bn_b 1) 16 = .ok (.iconst 0, 1) := by decide +kernel
theorem bd_1_17 : decode (bn_b 1) 17 = .ok (.putfield 21, 3) := by decide +kernel
theorem bd_1_20 : decode (bn_b 1) 20 = .ok (.aload_n 0, 1) := by decide +kernel
theorem bd_1_21 : decode (bn_b 1) 21 = .ok (.iconst 0, 1) := by decide +kernel
theorem bd_1_22 : decode (bn_b 1) 22 = .ok (.putfield 28, 3) := by decide +kernel
theorem bd_1_25 : decode (bn_b 1) 25 = .ok (.aload_n 0, 1) := by decide +kernel
theorem bd_1_26 : decode (bn_b 1) 26 = .ok (.iconst 0, 1) := by decide +kernel
theorem bd_1_27 : decode (bn_b 1) 27 = .ok (.putfield 42, 3) := by decide +kernel
theorem bd_1_30 : decode (bn_b 1) 30 = .ok (.return_, 1) := by decide +kernel
theorem bd_2_0 : decode (bn_b 2) 0 = .ok (.aload_n 0, 1) := by decide +kernel
theorem bd_2_1 : decode (bn_b 2) 1 = .ok (.getfield 28, 3) := by decide +kernel
theorem bd_2_4 : decode (bn_b 2) 4 = .ok (.iconst 5, 1) := by decide +kernel
theorem bd_2_5 : decode (bn_b 2) 5 = .ok (.if_icmp .ge 43, 3) := by decide +kernel
theorem bd_2_8 : decode (bn_b 2) 8 = .ok (.aload_n 0, 1) := by decide +kernel
theorem bd_2_9 : decode (bn_b 2) 9 = .ok (.getfield 31, 3) := by decide +kernel
theorem bd_2_12 : decode (bn_b 2) 12 = .ok (.aload_n 0, 1) := by decide +kernel
theorem bd_2_13 : decode (bn_b 2) 13 = .ok (.getfield 28, 3) := by decide +kernel
theorem bd_2_16 : decode (bn_b 2) 16 = .ok (.iload_n 1, 1) := by decide +kernel
theorem bd_2_17 : decode (bn_b 2) 17 = .ok (.iastore, 1) := by decide +kernel
theorem bd_2_18 : decode (bn_b 2) 18 = .ok (.aload_n 0, 1) := by decide +kernel
theorem bd_2_19 : decode (bn_b 2) 19 = .ok (.getfield 35, 3) := by decide +kernel
theorem bd_2_22 : decode (bn_b 2) 22 = .ok (.aload_n 0, 1) := by decide +kernel
theorem bd_2_23 : decode (bn_b 2) 23 = .ok (.getfield 28, 3) := by decide +kernel
theorem bd_2_26 : decode (bn_b 2) 26 = .ok (.iconst 0, 1) := by decide +kernel
theorem bd_2_27 : decode (bn_b 2) 27 = .ok (.bastore, 1) := by decide +kernel
theorem bd_2_28 : decode (bn_b 2) 28 = .ok (.aload_n 0, 1) := by decide +kernel
theorem bd_2_29 : decode (bn_b 2) 29 = .ok (.getfield 39, 3) := by decide +kernel
theorem bd_2_32 : decode (bn_b 2) 32 = .ok (.aload_n 0, 1) := by decide +kernel
theorem bd_2_33 : decode (bn_b 2) 33 = .ok (.getfield 28, 3) := by decide +kernel
theorem bd_2_36 : decode (bn_b 2) 36 = .ok (.iconst 0, 1) := by decide +kernel
theorem bd_2_37 : decode (bn_b 2) 37 = .ok (.iastore, 1) := by decide +kernel
theorem bd_2_38 : decode (bn_b 2) 38 = .ok (.aload_n 0, 1) := by decide +kernel
theorem bd_2_39 : decode (bn_b 2) 39 = .ok (.dup, 1) := by decide +kernel
theorem bd_2_40 : decode (bn_b 2) 40 = .ok (.getfield 28, 3) := by decide +kernel
theorem bd_2_43 : decode (bn_b 2) 43 = .ok (.iconst 1, 1) := by decide +kernel
theorem bd_2_44 : decode (bn_b 2) 44 = .ok (.iadd, 1) := by decide +kernel
theorem bd_2_45 : decode (bn_b 2) 45 = .ok (.putfield 28, 3) := by decide +kernel
theorem bd_2_48 : decode (bn_b 2) 48 = .ok (.return_, 1) := by decide +kernel
theorem bd_3_0 : decode (bn_b 3) 0 = .ok (.aload_n 0, 1) := by decide +kernel
theorem bd_3_1 : decode (bn_b 3) 1 = .ok (.getfield 42, 3) := by decide +kernel
theorem bd_3_4 : decode (bn_b 3) 4 = .ok (.bipush 10, 2) := by decide +kernel
theorem bd_3_6 : decode (bn_b 3) 6 = .ok (.if_icmp .ge 65, 3) := by decide +kernel
theorem bd_3_9 : decode (bn_b 3) 9 = .ok (.aload_n 0, 1) := by decide +kernel
theorem bd_3_10 : decode (bn_b 3) 10 = .ok (.getfield 45, 3) := by decide +kernel
theorem bd_3_13 : decode (bn_b 3) 13 = .ok (.aload_n 0, 1) := by decide +kernel
theorem bd_3_14 : decode (bn_b 3) 14 = .ok (.getfield 42, 3) := by decide +kernel
theorem bd_3_17 : decode (bn_b 3) 17 = .ok (.iload_n 1, 1) := by decide +kernel
theorem bd_3_18 : decode (bn_b 3) 18 = .ok (.iastore, 1) := by decide +kernel
theorem bd_3_19 : decode (bn_b 3) 19 = .ok (.aload_n 0, 1) := by decide +kernel
theorem bd_3_20 : decode (bn_b 3) 20 = .ok (.getfield 48, 3) := by decide +kernel
theorem bd_3_23 : decode (bn_b 3) 23 = .ok (.aload_n 0, 1) := by decide +kernel
theorem bd_3_24 : decode (bn_b 3) 24 = .ok (.getfield 42, 3) := by decide +kernel
theorem bd_3_27 : decode (bn_b 3) 27 = .ok (.iload_n 2, 1) := by decide +kernel
theorem bd_3_28 : decode (bn_b 3) 28 = .ok (.iastore, 1) := by decide +kernel
theorem bd_3_29 : decode (bn_b 3) 29 = .ok (.aload_n 0, 1) := by decide +kernel
theorem bd_3_30 : decode (bn_b 3) 30 = .ok (.getfield 51, 3) := by decide +kernel
theorem bd_3_33 : decode (bn_b 3) 33 = .ok (.aload_n 0, 1) := by decide +kernel
theorem bd_3_34 : decode (bn_b 3) 34 = .ok (.getfield 42, 3) := by decide +kernel
theorem bd_3_37 : decode (bn_b 3) 37 = .ok (.iload_n 3, 1) := by decide +kernel
theorem bd_3_38 : decode (bn_b 3) 38 = .ok (.iastore, 1) := by decide +kernel
theorem bd_3_39 : decode (bn_b 3) 39 = .ok (.aload_n 0, 1) := by decide +kernel
theorem bd_3_40 : decode (bn_b 3) 40 = .ok (.getfield 54, 3) := by decide +kernel
theorem bd_3_43 : decode (bn_b 3) 43 = .ok (.aload_n 0, 1) := by decide +kernel
theorem bd_3_44 : decode (bn_b 3) 44 = .ok (.getfield 42, 3) := by decide +kernel
theorem bd_3_47 : decode (bn_b 3) 47 = .ok (.bipush (-9), 2) := by decide +kernel
theorem bd_3_49 : decode (bn_b 3) 49 = .ok (.iastore, 1) := by decide +kernel
theorem bd_3_50 : decode (bn_b 3) 50 = .ok (.aload_n 0, 1) := by decide +kernel
theorem bd_3_51 : decode (bn_b 3) 51 = .ok (.getfield 57, 3) := by decide +kernel
theorem bd_3_54 : decode (bn_b 3) 54 = .ok (.aload_n 0, 1) := by decide +kernel
theorem bd_3_55 : decode (bn_b 3) 55 = .ok (.getfield 42, 3) := by decide +kernel
theorem bd_3_58 : decode (bn_b 3) 58 = .ok (.bipush (-9), 2) := by decide +kernel
theorem bd_3_60 : decode (bn_b 3) 60 = .ok (.iastore, 1) := by decide +kernel
theorem bd_3_61 : decode (bn_b 3) 61 = .ok (.aload_n 0, 1) := by decide +kernel
theorem bd_3_62 : decode (bn_b 3) 62 = .ok (.dup, 1) := by decide +kernel
theorem bd_3_63 : decode (bn_b 3) 63 = .ok (.getfield 42, 3) := by decide +kernel
theorem bd_3_66 : decode (bn_b 3) 66 = .ok (.iconst 1, 1) := by decide +kernel
theorem bd_3_67 : decode (bn_b 3) 67 = .ok (.iadd, 1) := by decide +kernel
theorem bd_3_68 : decode (bn_b 3) 68 = .ok (.putfield 42, 3) := by decide +kernel
theorem bd_3_71 : decode (bn_b 3) 71 = .ok (.return_, 1) := by decide +kernel
theorem bd_4_0 : decode (bn_b 4) 0 = .ok (.aload_n 0, 1) := by decide +kernel
theorem bd_4_1 : decode (bn_b 4) 1 = .ok (.aload_n 1, 1) := by decide +kernel
theorem bd_4_2 : decode (bn_b 4) 2 = .ok (.getfield 9, 3) := by decide +kernel
theorem bd_4_5 : decode (bn_b 4) 5 = .ok (.putfield 9, 3) := by decide +kernel
theorem bd_4_8 : decode (bn_b 4) 8 = .ok (.aload_n 0, 1) := by decide +kernel
theorem bd_4_9 : decode (bn_b 4) 9 = .ok (.aload_n 1, 1) := by decide +kernel
theorem bd_4_10 : decode (bn_b 4) 10 = .ok (.getfield 15, 3) := by decide +kernel
theorem bd_4_13 : decode (bn_b 4) 13 = .ok (.putfield 15, 3) := by decide +kernel
theorem bd_4_16 : decode (bn_b 4) 16 = .ok (.aload_n 0, 1) := by decide +kernel
theorem bd_4_17 : decode (bn_b 4) 17 = .ok (.aload_n 1, 1) := by decide +kernel
theorem bd_4_18 : decode (bn_b 4) 18 = .ok (.getfield 18, 3) := by decide +kernel
theorem bd_4_21 : decode (bn_b 4) 21 = .ok (.putfield 18, 3) := by decide +kernel
theorem bd_4_24 : decode (bn_b 4) 24 = .ok (.aload_n 0, 1) := by decide +kernel
theorem bd_4_25 : decode (bn_b 4) 25 = .ok (.aload_n 1, 1) := by decide +kernel
theorem bd_4_26 : decode (bn_b 4) 26 = .ok (.getfield 21, 3) := by decide +kernel
theorem bd_4_29 : decode (bn_b 4) 29 = .ok (.putfield 21, 3) := by decide +kernel
theorem bd_4_32 : decode (bn_b 4) 32 = .ok (.aload_n 0, 1) := by decide +kernel
theorem bd_4_33 : decode (bn_b 4) 33 = .ok (.aload_n 1, 1) := by decide +kernel
theorem bd_4_34 : decode (bn_b 4) 34 = .ok (.getfield 24, 3) := by decide +kernel
theorem bd_4_37 : decode (bn_b 4) 37 = .ok (.putfield 24, 3) := by decide +kernel
theorem bd_4_40 : decode (bn_b 4) 40 = .ok (.aload_n 0, 1) := by decide +kernel
theorem bd_4_41 : decode (bn_b 4) 41 = .ok (.aload_n 1, 1) := by decide +kernel
theorem bd_4_42 : decode (bn_b 4) 42 = .ok (.getfield 28, 3) := by decide +kernel
theorem bd_4_45 : decode (bn_b 4) 45 = .ok (.putfield 28, 3) := by decide +kernel
theorem bd_4_48 : decode (bn_b 4) 48 = .ok (.aload_n 1, 1) := by decide +kernel
theorem bd_4_49 : decode (bn_b 4) 49 = .ok (.getfield 31, 3) := by decide +kernel
theorem bd_4_52 : decode (bn_b 4) 52 = .ok (.iconst 0, 1) := by decide +kernel
theorem bd_4_53 : decode (bn_b 4) 53 = .ok (.aload_n 0, 1) := by decide +kernel
theorem bd_4_54 : decode (bn_b 4) 54 = .ok (.getfield 31, 3) := by decide +kernel
theorem bd_4_57 : decode (bn_b 4) 57 = .ok (.iconst 0, 1) := by decide +kernel
theorem bd_4_58 : decode (bn_b 4) 58 = .ok (.iconst 5, 1) := by decide +kernel
theorem bd_4_59 : decode (bn_b 4) 59 = .ok (.invokestatic 60, 3) := by decide +kernel
theorem bd_4_62 : decode (bn_b 4) 62 = .ok (.aload_n 1, 1) := by decide +kernel
theorem bd_4_63 : decode (bn_b 4) 63 = .ok (.getfield 39, 3) := by decide +kernel
theorem bd_4_66 : decode (bn_b 4) 66 = .ok (.iconst 0, 1) := by decide +kernel
theorem bd_4_67 : decode (bn_b 4) 67 = .ok (.aload_n 0, 1) := by decide +kernel
theorem bd_4_68 : decode (bn_b 4) 68 = .ok (.getfield 39, 3) := by decide +kernel
theorem bd_4_71 : decode (bn_b 4) 71 = .ok (.iconst 0, 1) := by decide +kernel
theorem bd_4_72 : decode (bn_b 4) 72 = .ok (.iconst 5, 1) := by decide +kernel
theorem bd_4_73 : decode (bn_b 4) 73 = .ok (.invokestatic 60, 3) := by decide +kernel
theorem bd_4_76 : decode (bn_b 4) 76 = .ok (.iconst 0, 1) := by decide +kernel
theorem bd_4_77 : decode (bn_b 4) 77 = .ok (.istore_n 2, 1) := by decide +kernel
theorem bd_4_78 : decode (bn_b 4) 78 = .ok (.iload_n 2, 1) := by decide +kernel
theorem bd_4_79 : decode (bn_b 4) 79 = .ok (.iconst 5, 1) := by decide +kernel
theorem bd_4_80 : decode (bn_b 4) 80 = .ok (.if_icmp .ge 21, 3) := by decide +kernel
theorem bd_4_83 : decode (bn_b 4) 83 = .ok (.aload_n 0, 1) := by decide +kernel
theorem bd_4_84 : decode (bn_b 4) 84 = .ok (.getfield 35, 3) := by decide +kernel
theorem bd_4_87 : decode (bn_b 4) 87 = .ok (.iload_n 2, 1) := by decide +kernel
theorem bd_4_88 : decode (bn_b 4) 88 = .ok (.aload_n 1, 1) := by decide +kernel
theorem bd_4_89 : decode (bn_b 4) 89 = .ok (.getfield 35, 3) := by decide +kernel
theorem bd_4_92 : decode (bn_b 4) 92 = .ok (.iload_n 2, 1) := by decide +kernel
theorem bd_4_93 : decode (bn_b 4) 93 = .ok (.baload, 1) := by decide +kernel
theorem bd_4_94 : decode (bn_b 4) 94 = .ok (.bastore, 1) := by decide +kernel
theorem bd_4_95 : decode (bn_b 4) 95 = .ok (.iinc 2 1, 3) := by decide +kernel
theorem bd_4_98 : decode (bn_b 4) 98 = .ok (.goto (-20), 3) := by decide +kernel
theorem bd_4_101 : decode (bn_b 4) 101 = .ok (.aload_n 0, 1) := by decide +kernel
theorem bd_4_102 : decode (bn_b 4) 102 = .ok (.aload_n 1, 1) := by decide +kernel
theorem bd_4_103 : decode (bn_b 4) 103 = .ok (.getfield 42, 3) := by decide +kernel
theorem bd_4_106 : decode (bn_b 4) 106 = .ok (.putfield 42, 3) := by decide +kernel
theorem bd_4_109 : decode (bn_b 4) 109 = .ok (.aload_n 1, 1) := by decide +kernel
theorem bd_4_110 : decode (bn_b 4) 110 = .ok (.getfield 45, 3) := by decide +kernel
theorem bd_4_113 : decode (bn_b 4) 113 = .ok (.iconst 0, 1) := by decide +kernel
theorem bd_4_114 : decode (bn_b 4) 114 = .ok (.aload_n 0, 1) := by decide +kernel
theorem bd_4_115 : decode (bn_b 4) 115 = .ok (.getfield 45, 3) := by decide +kernel
theorem bd_4_118 : decode (bn_b 4) 118 = .ok (.iconst 0, 1) := by decide +kernel
theorem bd_4_119 : decode (bn_b 4) 119 = .ok (.bipush 10, 2) := by decide +kernel
theorem bd_4_121 : decode (bn_b 4) 121 = .ok (.invokestatic 60, 3) := by decide +kernel
theorem bd_4_124 : decode (bn_b 4) 124 = .ok (.aload_n 1, 1) := by decide +kernel
theorem bd_4_125 : decode (bn_b 4) 125 = .ok (.getfield 48, 3) := by decide +kernel
theorem bd_4_128 : decode (bn_b 4) 128 = .ok (.iconst 0, 1) := by decide +kernel
theorem bd_4_129 : decode (bn_b 4) 129 = .ok (.aload_n 0, 1) := by decide +kernel
theorem bd_4_130 : decode (bn_b 4) 130 = .ok (.getfield 48, 3) := by decide +kernel
theorem bd_4_133 : decode (bn_b 4) 133 = .ok (.iconst 0, 1) := by decide +kernel
theorem bd_4_134 : decode (bn_b 4) 134 = .ok (.bipush 10, 2) := by decide +kernel
theorem bd_4_136 : decode (bn_b 4) 136 = .ok (.invokestatic 60, 3) := by decide +kernel
theorem bd_4_139 : decode (bn_b 4) 139 = .ok (.aload_n 1, 1) := by decide +kernel
theorem bd_4_140 : decode (bn_b 4) 140 = .ok (.getfield 51, 3) := by decide +kernel
theorem bd_4_143 : decode (bn_b 4) 143 = .ok (.iconst 0, 1) := by decide +kernel
theorem bd_4_144 : decode (bn_b 4) 144 = .ok (.aload_n 0, 1) := by decide +kernel
theorem bd_4_145 : decode (bn_b 4) 145 = .ok (.getfield 51, 3) := by decide +kernel
theorem bd_4_148 : decode (bn_b 4) 148 = .ok (.iconst 0, 1) := by decide +kernel
theorem bd_4_149 : decode (bn_b 4) 149 = .ok (.bipush 10, 2) := by decide +kernel
theorem bd_4_151 : decode (bn_b 4) 151 = .ok (.invokestatic 60, 3) := by decide +kernel
theorem bd_4_154 : decode (bn_b 4) 154 = .ok (.aload_n 1, 1) := by decide +kernel
theorem bd_4_155 : decode (bn_b 4) 155 = .ok (.getfield 54, 3) := by decide +kernel
theorem bd_4_158 : decode (bn_b 4) 158 = .ok (.iconst 0, 1) := by decide +kernel
theorem bd_4_159 : decode (bn_b 4) 159 = .ok (.aload_n 0, 1) := by decide +kernel
theorem bd_4_160 : decode (bn_b 4) 160 = .ok (.getfield 54, 3) := by decide +kernel
theorem bd_4_163 : decode (bn_b 4) 163 = .ok (.iconst 0, 1) := by decide +kernel
theorem bd_4_164 : decode (bn_b 4) 164 = .ok (.bipush 10, 2) := by decide +kernel
theorem bd_4_166 : decode (bn_b 4) 166 = .ok (.invokestatic 60, 3) := by decide +kernel
theorem bd_4_169 : decode (bn_b 4) 169 = .ok (.aload_n 1, 1) := by decide +kernel
theorem bd_4_170 : decode (bn_b 4) 170 = .ok (.getfield 57, 3) := by decide +kernel
theorem bd_4_173 : decode (bn_b 4) 173 = .ok (.iconst 0, 1) := by decide +kernel
theorem bd_4_174 : decode (bn_b 4) 174 = .ok (.aload_n 0, 1) := by decide +kernel
theorem bd_4_175 : decode (bn_b 4) 175 = .ok (.getfield 57, 3) := by decide +kernel
theorem bd_4_178 : decode (bn_b 4) 178 = .ok (.iconst 0, 1) := by decide +kernel
theorem bd_4_179 : decode (bn_b 4) 179 = .ok (.bipush 10, 2) := by decide +kernel
theorem bd_4_181 : decode (bn_b 4) 181 = .ok (.invokestatic 60, 3) := by decide +kernel
theorem bd_4_184 : decode (bn_b 4) 184 = .ok (.return_, 1) := by decide +kernel
theorem bd_5_0 : decode (bn_b 5) 0 = .ok (.iload_n 1, 1) := by decide +kernel
theorem bd_5_1 : decode (bn_b 5) 1 = .ok (.ifCond .lt 15, 3) := by decide +kernel
theorem bd_5_4 : decode (bn_b 5) 4 = .ok (.iload_n 1, 1) := by decide +kernel
theorem bd_5_5 : decode (bn_b 5) 5 = .ok (.aload_n 0, 1) := by decide +kernel
theorem bd_5_6 : decode (bn_b 5) 6 = .ok (.getfield 28, 3) := by decide +kernel
theorem bd_5_9 : decode (bn_b 5) 9 = .ok (.if_icmp .ge 7, 3) := by decide +kernel
theorem bd_5_12 : decode (bn_b 5) 12 = .ok (.iconst 1, 1) := by decide +kernel
theorem bd_5_13 : decode (bn_b 5) 13 = .ok (.goto 4, 3) := by decide +kernel
theorem bd_5_16 : decode (bn_b 5) 16 = .ok (.iconst 0, 1) := by decide +kernel
theorem bd_5_17 : decode (bn_b 5) 17 = .ok (.ireturn, 1) := by decide +kernel
theorem bd_6_0 : decode (bn_b 6) 0 = .ok (.iload_n 1, 1) := by decide +kernel
theorem bd_6_1 : decode (bn_b 6) 1 = .ok (.ifCond .lt 15, 3) := by decide +kernel
theorem bd_6_4 : decode (bn_b 6) 4 = .ok (.iload_n 1, 1) := by decide +kernel
theorem bd_6_5 : decode (bn_b 6) 5 = .ok (.aload_n 0, 1) := by decide +kernel
theorem bd_6_6 : decode (bn_b 6) 6 = .ok (.getfield 42, 3) := by decide +kernel
theorem bd_6_9 : decode (bn_b 6) 9 = .ok (.if_icmp .ge 7, 3) := by decide +kernel
theorem bd_6_12 : decode (bn_b 6) 12 = .ok (.iconst 1, 1) := by decide +kernel
theorem bd_6_13 : decode (bn_b 6) 13 = .ok (.goto 4, 3) := by decide +kernel
theorem bd_6_16 : decode (bn_b 6) 16 = .ok (.iconst 0, 1) := by decide +kernel
theorem bd_6_17 : decode (bn_b 6) 17 = .ok (.ireturn, 1) := by decide +kernel
theorem bd_7_0 : decode (bn_b 7) 0 = .ok (.aload_n 0, 1) := by decide +kernel
theorem bd_7_1 : decode (bn_b 7) 1 = .ok (.getfield 31, 3) := by decide +kernel
theorem bd_7_4 : decode (bn_b 7) 4 = .ok (.iload_n 1, 1) := by decide +kernel
theorem bd_7_5 : decode (bn_b 7) 5 = .ok (.iaload, 1) := by decide +kernel
theorem bd_7_6 : decode (bn_b 7) 6 = .ok (.aload_n 0, 1) := by decide +kernel
theorem bd_7_7 : decode (bn_b 7) 7 = .ok (.getfield 15, 3) := by decide +kernel
theorem bd_7_10 : decode (bn_b 7) 10 = .ok (.if_icmp .gt 7, 3) := by decide +kernel
theorem bd_7_13 : decode (bn_b 7) 13 = .ok (.iconst 1, 1) := by decide +kernel
theorem bd_7_14 : decode (bn_b 7) 14 = .ok (.goto 4, 3) := by decide +kernel
theorem bd_7_17 : decode (bn_b 7) 17 = .ok (.iconst 0, 1) := by decide +kernel
theorem bd_7_18 : decode (bn_b 7) 18 = .ok (.ireturn, 1) := by decide +kernel
theorem bd_8_0 : decode (bn_b 8) 0 = .ok (.aload_n 0, 1) := by decide +kernel
theorem bd_8_1 : decode (bn_b 8) 1 = .ok (.getfield 51, 3) := by decide +kernel
theorem bd_8_4 : decode (bn_b 8) 4 = .ok (.iload_n 1, 1) := by decide +kernel
theorem bd_8_5 : decode (bn_b 8) 5 = .ok (.iaload, 1) := by decide +kernel
theorem bd_8_6 : decode (bn_b 8) 6 = .ok (.aload_n 0, 1) := by decide +kernel
theorem bd_8_7 : decode (bn_b 8) 7 = .ok (.getfield 18, 3) := by decide +kernel
theorem bd_8_10 : decode (bn_b 8) 10 = .ok (.if_icmp .lt 7, 3) := by decide +kernel
theorem bd_8_13 : decode (bn_b 8) 13 = .ok (.iconst 1, 1) := by decide +kernel
theorem bd_8_14 : decode (bn_b 8) 14 = .ok (.goto 4, 3) := by decide +kernel
theorem bd_8_17 : decode (bn_b 8) 17 = .ok (.iconst 0, 1) := by decide +kernel
theorem bd_8_18 : decode (bn_b 8) 18 = .ok (.ireturn, 1) := by decide +kernel
theorem bd_9_0 : decode (bn_b 9) 0 = .ok (.aload_n 0, 1) := by decide +kernel
theorem bd_9_1 : decode (bn_b 9) 1 = .ok (.getfield 48, 3) := by decide +kernel
theorem bd_9_4 : decode (bn_b 9) 4 = .ok (.iload_n 1, 1) := by decide +kernel
theorem bd_9_5 : decode (bn_b 9) 5 = .ok (.iaload, 1) := by decide +kernel
theorem bd_9_6 : decode (bn_b 9) 6 = .ok (.bipush 10, 2) := by decide +kernel
theorem bd_9_8 : decode (bn_b 9) 8 = .ok (.if_icmp .ge 7, 3) := by decide +kernel
theorem bd_9_11 : decode (bn_b 9) 11 = .ok (.iconst 1, 1) := by decide +kernel
theorem bd_9_12 : decode (bn_b 9) 12 = .ok (.goto 4, 3) := by decide +kernel
theorem bd_9_15 : decode (bn_b 9) 15 = .ok (.iconst 0, 1) := by decide +kernel
theorem bd_9_16 : decode (bn_b 9) 16 = .ok (.ireturn, 1) := by decide +kernel
theorem bd_10_0 : decode (bn_b 10) 0 = .ok (.iconst 0, 1) := by decide +kernel
theorem bd_10_1 : decode (bn_b 10) 1 = .ok (.istore_n 1, 1) := by decide +kernel
theorem bd_10_2 : decode (bn_b 10) 2 = .ok (.iconst 0, 1) := by decide +kernel
theorem bd_10_3 : decode (bn_b 10) 3 = .ok (.istore_n 2, 1) := by decide +kernel
theorem bd_10_4 : decode (bn_b 10) 4 = .ok (.iload_n 2, 1) := by decide +kernel
theorem bd_10_5 : decode (bn_b 10) 5 = .ok (.aload_n 0, 1) := by decide +kernel
theorem bd_10_6 : decode (bn_b 10) 6 = .ok (.getfield 28, 3) := by decide +kernel
theorem bd_10_9 : decode (bn_b 10) 9 = .ok (.if_icmp .ge 23, 3) := by decide +kernel
theorem bd_10_12 : decode (bn_b 10) 12 = .ok (.aload_n 0, 1) := by decide +kernel
theorem bd_10_13 : decode (bn_b 10) 13 = .ok (.iload_n 2, 1) := by decide +kernel
theorem bd_10_14 : decode (bn_b 10) 14 = .ok (.invokevirtual 66, 3) := by decide +kernel
theorem bd_10_17 : decode (bn_b 10) 17 = .ok (.ifCond .eq 9, 3) := by decide +kernel
theorem bd_10_20 : decode (bn_b 10) 20 = .ok (.iload_n 1, 1) := by decide +kernel
theorem bd_10_21 : decode (bn_b 10) 21 = .ok (.iconst 1, 1) := by decide +kernel
theorem bd_10_22 : decode (bn_b 10) 22 = .ok (.iload_n 2, 1) := by decide +kernel
theorem bd_10_23 : decode (bn_b 10) 23 = .ok (.ishl, 1) := by decide +kernel
theorem bd_10_24 : decode (bn_b 10) 24 = .ok (.ior, 1) := by decide +kernel
theorem bd_10_25 : decode (bn_b 10) 25 = .ok (.istore_n 1, 1) := by decide +kernel
theorem bd_10_26 : decode (bn_b 10) 26 = .ok (.iinc 2 1, 3) := by decide +kernel
theorem bd_10_29 : decode (bn_b 10) 29 = .ok (.goto (-25), 3) := by decide +kernel
theorem bd_10_32 : decode (bn_b 10) 32 = .ok (.iload_n 1, 1) := by decide +kernel
theorem bd_10_33 : decode (bn_b 10) 33 = .ok (.ireturn, 1) := by decide +kernel
theorem bd_11_0 : decode (bn_b 11) 0 = .ok (.aload_n 0, 1) := by decide +kernel
theorem bd_11_1 : decode (bn_b 11) 1 = .ok (.invokevirtual 70, 3) := by decide +kernel
theorem bd_11_4 : decode (bn_b 11) 4 = .ok (.invokestatic 74, 3) := by decide +kernel
theorem bd_11_7 : decode (bn_b 11) 7 = .ok (.ireturn, 1) := by decide +kernel
theorem bd_12_0 : decode (bn_b 12) 0 = .ok (.iload_n 1, 1) := by decide +kernel
theorem bd_12_1 : decode (bn_b 12) 1 = .ok (.istore_n 2, 1) := by decide +kernel
theorem bd_12_2 : decode (bn_b 12) 2 = .ok (.iconst 0, 1) := by decide +kernel
theorem bd_12_3 : decode (bn_b 12) 3 = .ok (.istore_n 3, 1) := by decide +kernel
theorem bd_12_4 : decode (bn_b 12) 4 = .ok (.iload_n 3, 1) := by decide +kernel
theorem bd_12_5 : decode (bn_b 12) 5 = .ok (.aload_n 0, 1) := by decide +kernel
theorem bd_12_6 : decode (bn_b 12) 6 = .ok (.getfield 28, 3) := by decide +kernel
theorem bd_12_9 : decode (bn_b 12) 9 = .ok (.if_icmp .ge 26, 3) := by decide +kernel
theorem bd_12_12 : decode (bn_b 12) 12 = .ok (.aload_n 0, 1) := by decide +kernel
theorem bd_12_13 : decode (bn_b 12) 13 = .ok (.iload_n 3, 1) := by decide +kernel
theorem bd_12_14 : decode (bn_b 12) 14 = .ok (.invokevirtual 66, 3) := by decide +kernel
theorem bd_12_17 : decode (bn_b 12) 17 = .ok (.ifCond .eq 12, 3) := by decide +kernel
theorem bd_12_20 : decode (bn_b 12) 20 = .ok (.iload_n 2, 1) := by decide +kernel
theorem bd_12_21 : decode (bn_b 12) 21 = .ok (.ifCond .ne 5, 3) := by decide +kernel
theorem bd_12_24 : decode (bn_b 12) 24 = .ok (.iload_n 3, 1) := by decide +kernel
theorem bd_12_25 : decode (bn_b 12) 25 = .ok (.ireturn, 1) := by decide +kernel
theorem bd_12_26 : decode (bn_b 12) 26 = .ok (.iinc 2 (-1), 3) := by decide +kernel
theorem bd_12_29 : decode (bn_b 12) 29 = .ok (.iinc 3 1, 3) := by decide +kernel
theorem bd_12_32 : decode (bn_b 12) 32 = .ok (.goto (-28), 3) := by decide +kernel
theorem bd_12_35 : decode (bn_b 12) 35 = .ok (.bipush (-9), 2) := by decide +kernel
theorem bd_12_37 : decode (bn_b 12) 37 = .ok (.ireturn, 1) := by decide +kernel
theorem bd_13_0 : decode (bn_b 13) 0 = .ok (.iconst 0, 1) := by decide +kernel
theorem bd_13_1 : decode (bn_b 13) 1 = .ok (.istore_n 2, 1) := by decide +kernel
theorem bd_13_2 : decode (bn_b 13) 2 = .ok (.iconst 0, 1) := by decide +kernel
theorem bd_13_3 : decode (bn_b 13) 3 = .ok (.istore_n 3, 1) := by decide +kernel
theorem bd_13_4 : decode (bn_b 13) 4 = .ok (.iload_n 3, 1) := by decide +kernel
theorem bd_13_5 : decode (bn_b 13) 5 = .ok (.aload_n 0, 1) := by decide +kernel
theorem bd_13_6 : decode (bn_b 13) 6 = .ok (.getfield 42, 3) := by decide +kernel
theorem bd_13_9 : decode (bn_b 13) 9 = .ok (.if_icmp .ge 25, 3) := by decide +kernel
theorem bd_13_12 : decode (bn_b 13) 12 = .ok (.aload_n 0, 1) := by decide +kernel
theorem bd_13_13 : decode (bn_b 13) 13 = .ok (.getfield 48, 3) := by decide +kernel
theorem bd_13_16 : decode (bn_b 13) 16 = .ok (.iload_n 3, 1) := by decide +kernel
theorem bd_13_17 : decode (bn_b 13) 17 = .ok (.iaload, 1) := by decide +kernel
theorem bd_13_18 : decode (bn_b 13) 18 = .ok (.iload_n 1, 1) := by decide +kernel
theorem bd_13_19 : decode (bn_b 13) 19 = .ok (.if_icmp .ne 9, 3) := by decide +kernel
theorem bd_13_22 : decode (bn_b 13) 22 = .ok (.iload_n 2, 1) := by decide +kernel
theorem bd_13_23 : decode (bn_b 13) 23 = .ok (.iconst 1, 1) := by decide +kernel
theorem bd_13_24 : decode (bn_b 13) 24 = .ok (.iload_n 3, 1) := by decide +kernel
theorem bd_13_25 : decode (bn_b 13) 25 = .ok (.ishl, 1) := by decide +kernel
theorem bd_13_26 : decode (bn_b 13) 26 = .ok (.ior, 1) := by decide +kernel
theorem bd_13_27 : decode (bn_b 13) 27 = .ok (.istore_n 2, 1) := by decide +kernel
theorem bd_13_28 : decode (bn_b 13) 28 = .ok (.iinc 3 1, 3) := by decide +kernel
theorem bd_13_31 : decode (bn_b 13) 31 = .ok (.goto (-27), 3) := by decide +kernel
theorem bd_13_34 : decode (bn_b 13) 34 = .ok (.iload_n 2, 1) := by decide +kernel
theorem bd_13_35 : decode (bn_b 13) 35 = .ok (.ireturn, 1) := by decide +kernel
theorem bd_14_0 : decode (bn_b 14) 0 = .ok (.aload_n 0, 1) := by decide +kernel
theorem bd_14_1 : decode (bn_b 14) 1 = .ok (.iload_n 1, 1) := by decide +kernel
theorem bd_14_2 : decode (bn_b 14) 2 = .ok (.invokevirtual 80, 3) := by decide +kernel
theorem bd_14_5 : decode (bn_b 14) 5 = .ok (.ifCond .eq 17, 3) := by decide +kernel
theorem bd_14_8 : decode (bn_b 14) 8 = .ok (.aload_n 0, 1) := by decide +kernel
theorem bd_14_9 : decode (bn_b 14) 9 = .ok (.getfield 48, 3) := by decide +kernel
theorem bd_14_12 : decode (bn_b 14) 12 = .ok (.iload_n 1, 1) := by decide +kernel
theorem bd_14_13 : decode (bn_b 14) 13 = .ok (.iaload, 1) := by decide +kernel
theorem bd_14_14 : decode (bn_b 14) 14 = .ok (.iload_n 2, 1) := by decide +kernel
theorem bd_14_15 : decode (bn_b 14) 15 = .ok (.if_icmp .eq 7, 3) := by decide +kernel
theorem bd_14_18 : decode (bn_b 14) 18 = .ok (.iconst 1, 1) := by decide +kernel
theorem bd_14_19 : decode (bn_b 14) 19 = .ok (.goto 4, 3) := by decide +kernel
theorem bd_14_22 : decode (bn_b 14) 22 = .ok (.iconst 0, 1) := by decide +kernel
theorem bd_14_23 : decode (bn_b 14) 23 = .ok (.ireturn, 1) := by decide +kernel
theorem bd_15_0 : decode (bn_b 15) 0 = .ok (.iconst 0, 1) := by decide +kernel
theorem bd_15_1 : decode (bn_b 15) 1 = .ok (.istore_n 2, 1) := by decide +kernel
theorem bd_15_2 : decode (bn_b 15) 2 = .ok (.iconst 0, 1) := by decide +kernel
theorem bd_15_3 : decode (bn_b 15) 3 = .ok (.istore_n 3, 1) := by decide +kernel
theorem bd_15_4 : decode (bn_b 15) 4 = .ok (.iload_n 3, 1) := by decide +kernel
theorem bd_15_5 : decode (bn_b 15) 5 = .ok (.aload_n 0, 1) := by decide +kernel
theorem bd_15_6 : decode (bn_b 15) 6 = .ok (.getfield 42, 3) := by decide +kernel
theorem bd_15_9 : decode (bn_b 15) 9 = .ok (.if_icmp .ge 21, 3) := by decide +kernel
theorem bd_15_12 : decode (bn_b 15) 12 = .ok (.aload_n 0, 1) := by decide +kernel
theorem bd_15_13 : decode (bn_b 15) 13 = .ok (.iload_n 3, 1) := by decide +kernel
theorem bd_15_14 : decode (bn_b 15) 14 = .ok (.iload_n 1, 1) := by decide +kernel
theorem bd_15_15 : decode (bn_b 15) 15 = .ok (.invokevirtual 83, 3) := by decide +kernel
theorem bd_15_18 : decode (bn_b 15) 18 = .ok (.ifCond .eq 6, 3) := by decide +kernel
theorem bd_15_21 : decode (bn_b 15) 21 = .ok (.iinc 2 1, 3) := by decide +kernel
theorem bd_15_24 : decode (bn_b 15) 24 = .ok (.iinc 3 1, 3) := by decide +kernel
theorem bd_15_27 : decode (bn_b 15) 27 = .ok (.goto (-23), 3) := by decide +kernel
theorem bd_15_30 : decode (bn_b 15) 30 = .ok (.iload_n 2, 1) := by decide +kernel
theorem bd_15_31 : decode (bn_b 15) 31 = .ok (.ireturn, 1) := by decide +kernel
theorem bd_16_0 : decode (bn_b 16) 0 = .ok (.iload_n 2, 1) := by decide +kernel
theorem bd_16_1 : decode (bn_b 16) 1 = .ok (.istore_n 3, 1) := by decide +kernel
theorem bd_16_2 : decode (bn_b 16) 2 = .ok (.iconst 0, 1) := by decide +kernel
theorem bd_16_3 : decode (bn_b 16) 3 = .ok (.istore 4, 2) := by decide +kernel
theorem bd_16_5 : decode (bn_b 16) 5 = .ok (.iload 4, 2) := by decide +kernel
theorem bd_16_7 : decode (bn_b 16) 7 = .ok (.aload_n 0, 1) := by decide +kernel
theorem bd_16_8 : decode (bn_b 16) 8 = .ok (.getfield 42, 3) := by decide +kernel
theorem bd_16_11 : decode (bn_b 16) 11 = .ok (.if_icmp .ge 29, 3) := by decide +kernel
theorem bd_16_14 : decode (bn_b 16) 14 = .ok (.aload_n 0, 1) := by decide +kernel
theorem bd_16_15 : decode (bn_b 16) 15 = .ok (.iload 4, 2) := by decide +kernel
theorem bd_16_17 : decode (bn_b 16) 17 = .ok (.iload_n 1, 1) := by decide +kernel
theorem bd_16_18 : decode (bn_b 16) 18 = .ok (.invokevirtual 83, 3) := by decide +kernel
theorem bd_16_21 : decode (bn_b 16) 21 = .ok (.ifCond .eq 13, 3) := by decide +kernel
theorem bd_16_24 : decode (bn_b 16) 24 = .ok (.iload_n 3, 1) := by decide +kernel
theorem bd_16_25 : decode (bn_b 16) 25 = .ok (.ifCond .ne 6, 3) := by decide +kernel
theorem bd_16_28 : decode (bn_b 16) 28 = .ok (.iload 4, 2) := by decide +kernel
theorem bd_16_30 : decode (bn_b 16) 30 = .ok (.ireturn, 1) := by decide +kernel
theorem bd_16_31 : decode (bn_b 16) 31 = .ok (.iinc 3 (-1), 3) := by decide +kernel
theorem bd_16_34 : decode (bn_b 16) 34 = .ok (.iinc 4 1, 3) := by decide +kernel
theorem bd_16_37 : decode (bn_b 16) 37 = .ok (.goto (-32), 3) := by decide +kernel
theorem bd_16_40 : decode (bn_b 16) 40 = .ok (.bipush (-9), 2) := by decide +kernel
theorem bd_16_42 : decode (bn_b 16) 42 = .ok (.ireturn, 1) := by decide +kernel
theorem bd_17_0 : decode (bn_b 17) 0 = .ok (.iconst 0, 1) := by decide +kernel
theorem bd_17_1 : decode (bn_b 17) 1 = .ok (.istore_n 1, 1) := by decide +kernel
theorem bd_17_2 : decode (bn_b 17) 2 = .ok (.iconst 0, 1) := by decide +kernel
theorem bd_17_3 : decode (bn_b 17) 3 = .ok (.istore_n 2, 1) := by decide +kernel
theorem bd_17_4 : decode (bn_b 17) 4 = .ok (.iload_n 2, 1) := by decide +kernel
theorem bd_17_5 : decode (bn_b 17) 5 = .ok (.aload_n 0, 1) := by decide +kernel
theorem bd_17_6 : decode (bn_b 17) 6 = .ok (.getfield 42, 3) := by decide +kernel
theorem bd_17_9 : decode (bn_b 17) 9 = .ok (.if_icmp .ge 23, 3) := by decide +kernel
theorem bd_17_12 : decode (bn_b 17) 12 = .ok (.aload_n 0, 1) := by decide +kernel
theorem bd_17_13 : decode (bn_b 17) 13 = .ok (.getfield 48, 3) := by decide +kernel
theorem bd_17_16 : decode (bn_b 17) 16 = .ok (.iload_n 2, 1) := by decide +kernel
theorem bd_17_17 : decode (bn_b 17) 17 = .ok (.iaload, 1) := by decide +kernel
theorem bd_17_18 : decode (bn_b 17) 18 = .ok (.bipush 20, 2) := by decide +kernel
theorem bd_17_20 : decode (bn_b 17) 20 = .ok (.if_icmp .ne 6, 3) := by decide +kernel
theorem bd_17_23 : decode (bn_b 17) 23 = .ok (.iinc 1 1, 3) := by decide +kernel
theorem bd_17_26 : decode (bn_b 17) 26 = .ok (.iinc 2 1, 3) := by decide +kernel
theorem bd_17_29 : decode (bn_b 17) 29 = .ok (.goto (-25), 3) := by decide +kernel
theorem bd_17_32 : decode (bn_b 17) 32 = .ok (.iload_n 1, 1) := by decide +kernel
theorem bd_17_33 : decode (bn_b 17) 33 = .ok (.ireturn, 1) := by decide +kernel
theorem bd_18_0 : decode (bn_b 18) 0 = .ok (.iconst 0, 1) := by decide +kernel
theorem bd_18_1 : decode (bn_b 18) 1 = .ok (.istore_n 1, 1) := by decide +kernel
theorem bd_18_2 : decode (bn_b 18) 2 = .ok (.iconst 0, 1) := by decide +kernel
theorem bd_18_3 : decode (bn_b 18) 3 = .ok (.istore_n 2, 1) := by decide +kernel
theorem bd_18_4 : decode (bn_b 18) 4 = .ok (.iload_n 2, 1) := by decide +kernel
theorem bd_18_5 : decode (bn_b 18) 5 = .ok (.aload_n 0, 1) := by decide +kernel
theorem bd_18_6 : decode (bn_b 18) 6 = .ok (.getfield 42, 3) := by decide +kernel
theorem bd_18_9 : decode (bn_b 18) 9 = .ok (.if_icmp .ge 31, 3) := by decide +kernel
theorem bd_18_12 : decode (bn_b 18) 12 = .ok (.aload_n 0, 1) := by decide +kernel
theorem bd_18_13 : decode (bn_b 18) 13 = .ok (.getfield 48, 3) := by decide +kernel
theorem bd_18_16 : decode (bn_b 18) 16 = .ok (.iload_n 2, 1) := by decide +kernel
theorem bd_18_17 : decode (bn_b 18) 17 = .ok (.iaload, 1) := by decide +kernel
theorem bd_18_18 : decode (bn_b 18) 18 = .ok (.bipush 20, 2) := by decide +kernel
theorem bd_18_20 : decode (bn_b 18) 20 = .ok (.if_icmp .eq 14, 3) := by decide +kernel
theorem bd_18_23 : decode (bn_b 18) 23 = .ok (.aload_n 0, 1) := by decide +kernel
theorem bd_18_24 : decode (bn_b 18) 24 = .ok (.iload_n 2, 1) := by decide +kernel
theorem bd_18_25 : decode (bn_b 18) 25 = .ok (.invokevirtual 87, 3) := by decide +kernel
theorem bd_18_28 : decode (bn_b 18) 28 = .ok (.ifCond .eq 6, 3) := by decide +kernel
theorem bd_18_31 : decode (bn_b 18) 31 = .ok (.iinc 1 1, 3) := by decide +kernel
theorem bd_18_34 : decode (bn_b 18) 34 = .ok (.iinc 2 1, 3) := by decide +kernel
theorem bd_18_37 : decode (bn_b 18) 37 = .ok (.goto (-33), 3) := by decide +kernel
theorem bd_18_40 : decode (bn_b 18) 40 = .ok (.iload_n 1, 1) := by decide +kernel
theorem bd_18_41 : decode (bn_b 18) 41 = .ok (.ireturn, 1) := by decide +kernel
theorem bd_19_0 : decode (bn_b 19) 0 = .ok (.iconst 0, 1) := by decide +kernel
theorem bd_19_1 : decode (bn_b 19) 1 = .ok (.istore_n 2, 1) := by decide +kernel
theorem bd_19_2 : decode (bn_b 19) 2 = .ok (.iload_n 2, 1) := by decide +kernel
theorem bd_19_3 : decode (bn_b 19) 3 = .ok (.aload_n 0, 1) := by decide +kernel
theorem bd_19_4 : decode (bn_b 19) 4 = .ok (.getfield 42, 3) := by decide +kernel
theorem bd_19_7 : decode (bn_b 19) 7 = .ok (.if_icmp .ge 21, 3) := by decide +kernel
theorem bd_19_10 : decode (bn_b 19) 10 = .ok (.aload_n 0, 1) := by decide +kernel
theorem bd_19_11 : decode (bn_b 19) 11 = .ok (.getfield 45, 3) := by decide +kernel
theorem bd_19_14 : decode (bn_b 19) 14 = .ok (.iload_n 2, 1) := by decide +kernel
theorem bd_19_15 : decode (bn_b 19) 15 = .ok (.iaload, 1) := by decide +kernel
theorem bd_19_16 : decode (bn_b 19) 16 = .ok (.iload_n 1, 1) := by decide +kernel
theorem bd_19_17 : decode (bn_b 19) 17 = .ok (.if_icmp .ne 5, 3) := by decide +kernel
theorem bd_19_20 : decode (bn_b 19) 20 = .ok (.iconst 1, 1) := by decide +kernel
theorem bd_19_21 : decode (bn_b 19) 21 = .ok (.ireturn, 1) := by decide +kernel
theorem bd_19_22 : decode (bn_b 19) 22 = .ok (.iinc 2 1, 3) := by decide +kernel
theorem bd_19_25 : decode (bn_b 19) 25 = .ok (.goto (-23), 3) := by decide +kernel
theorem bd_19_28 : decode (bn_b 19) 28 = .ok (.iconst 0, 1) := by decide +kernel
theorem bd_19_29 : decode (bn_b 19) 29 = .ok (.ireturn, 1) := by decide +kernel
theorem bd_20_0 : decode (bn_b 20) 0 = .ok (.iconst 0, 1) := by decide +kernel
theorem bd_20_1 : decode (bn_b 20) 1 = .ok (.istore_n 1, 1) := by decide +kernel
theorem bd_20_2 : decode (bn_b 20) 2 = .ok (.iconst 0, 1) := by decide +kernel
theorem bd_20_3 : decode (bn_b 20) 3 = .ok (.istore_n 2, 1) := by decide +kernel
theorem bd_20_4 : decode (bn_b 20) 4 = .ok (.iload_n 2, 1) := by decide +kernel
theorem bd_20_5 : decode (bn_b 20) 5 = .ok (.aload_n 0, 1) := by decide +kernel
theorem bd_20_6 : decode (bn_b 20) 6 = .ok (.getfield 42, 3) := by decide +kernel
theorem bd_20_9 : decode (bn_b 20) 9 = .ok (.if_icmp .ge 20, 3) := by decide +kernel
theorem bd_20_12 : decode (bn_b 20) 12 = .ok (.iload_n 1, 1) := by decide +kernel
theorem bd_20_13 : decode (bn_b 20) 13 = .ok (.aload_n 0, 1) := by decide +kernel
theorem bd_20_14 : decode (bn_b 20) 14 = .ok (.getfield 45, 3) := by decide +kernel
theorem bd_20_17 : decode (bn_b 20) 17 = .ok (.iload_n 2, 1) := by decide +kernel
theorem bd_20_18 : decode (bn_b 20) 18 = .ok (.iaload, 1) := by decide +kernel
theorem bd_20_19 : decode (bn_b 20) 19 = .ok (.invokestatic 90, 3) := by decide +kernel
theorem bd_20_22 : decode (bn_b 20) 22 = .ok (.istore_n 1, 1) := by decide +kernel
theorem bd_20_23 : decode (bn_b 20) 23 = .ok (.iinc 2 1, 3) := by decide +kernel
theorem bd_20_26 : decode (bn_b 20) 26 = .ok (.goto (-22), 3) := by decide +kernel
theorem bd_20_29 : decode (bn_b 20) 29 = .ok (.iload_n 1, 1) := by decide +kernel
theorem bd_20_30 : decode (bn_b 20) 30 = .ok (.ireturn, 1) := by decide +kernel
theorem bd_21_0 : decode (bn_b 21) 0 = .ok (.aload_n 0, 1) := by decide +kernel
theorem bd_21_1 : decode (bn_b 21) 1 = .ok (.invokevirtual 96, 3) := by decide +kernel
theorem bd_21_4 : decode (bn_b 21) 4 = .ok (.istore_n 1, 1) := by decide +kernel
theorem bd_21_5 : decode (bn_b 21) 5 = .ok (.iconst 0, 1) := by decide +kernel
theorem bd_21_6 : decode (bn_b 21) 6 = .ok (.istore_n 2, 1) := by decide +kernel
theorem bd_21_7 : decode (bn_b 21) 7 = .ok (.iconst 1, 1) := by decide +kernel
theorem bd_21_8 : decode (bn_b 21) 8 = .ok (.istore_n 3, 1) := by decide +kernel
theorem bd_21_9 : decode (bn_b 21) 9 = .ok (.iload_n 3, 1) := by decide +kernel
theorem bd_21_10 : decode (bn_b 21) 10 = .ok (.iload_n 1, 1) := by decide +kernel
theorem bd_21_11 : decode (bn_b 21) 11 = .ok (.if_icmp .ge 20, 3) := by decide +kernel
theorem bd_21_14 : decode (bn_b 21) 14 = .ok (.aload_n 0, 1) := by decide +kernel
theorem bd_21_15 : decode (bn_b 21) 15 = .ok (.iload_n 3, 1) := by decide +kernel
theorem bd_21_16 : decode (bn_b 21) 16 = .ok (.invokevirtual 99, 3) := by decide +kernel
theorem bd_21_19 : decode (bn_b 21) 19 = .ok (.ifCond .ne 6, 3) := by decide +kernel
theorem bd_21_22 : decode (bn_b 21) 22 = .ok (.iinc 2 1, 3) := by decide +kernel
theorem bd_21_25 : decode (bn_b 21) 25 = .ok (.iinc 3 1, 3) := by decide +kernel
theorem bd_21_28 : decode (bn_b 21) 28 = .ok (.goto (-19), 3) := by decide +kernel
theorem bd_21_31 : decode (bn_b 21) 31 = .ok (.iload_n 2, 1) := by decide +kernel
theorem bd_21_32 : decode (bn_b 21) 32 = .ok (.ireturn, 1) := by decide +kernel
theorem bd_22_0 : decode (bn_b 22) 0 = .ok (.aload_n 0, 1) := by decide +kernel
theorem bd_22_1 : decode (bn_b 22) 1 = .ok (.iload_n 1, 1) := by decide +kernel
theorem bd_22_2 : decode (bn_b 22) 2 = .ok (.invokevirtual 66, 3) := by decide +kernel
theorem bd_22_5 : decode (bn_b 22) 5 = .ok (.ifCond .eq 48, 3) := by decide +kernel
theorem bd_22_8 : decode (bn_b 22) 8 = .ok (.aload_n 0, 1) := by decide +kernel
theorem bd_22_9 : decode (bn_b 22) 9 = .ok (.getfield 35, 3) := by decide +kernel
theorem bd_22_12 : decode (bn_b 22) 12 = .ok (.iload_n 1, 1) := by decide +kernel
theorem bd_22_13 : decode (bn_b 22) 13 = .ok (.baload, 1) := by decide +kernel
theorem bd_22_14 : decode (bn_b 22) 14 = .ok (.ifCond .ne 39, 3) := by decide +kernel
theorem bd_22_17 : decode (bn_b 22) 17 = .ok (.aload_n 0, 1) := by decide +kernel
theorem bd_22_18 : decode (bn_b 22) 18 = .ok (.getfield 48, 3) := by decide +kernel
theorem bd_22_21 : decode (bn_b 22) 21 = .ok (.iload_n 2, 1) := by decide +kernel
theorem bd_22_22 : decode (bn_b 22) 22 = .ok (.iaload, 1) := by decide +kernel
theorem bd_22_23 : decode (bn_b 22) 23 = .ok (.iload_n 1, 1) := by decide +kernel
theorem bd_22_24 : decode (bn_b 22) 24 = .ok (.if_icmp .ne 29, 3) := by decide +kernel
theorem bd_22_27 : decode (bn_b 22) 27 = .ok (.aload_n 0, 1) := by decide +kernel
theorem bd_22_28 : decode (bn_b 22) 28 = .ok (.iload_n 2, 1) := by decide +kernel
theorem bd_22_29 : decode (bn_b 22) 29 = .ok (.invokevirtual 87, 3) := by decide +kernel
theorem bd_22_32 : decode (bn_b 22) 32 = .ok (.ifCond .ne 21, 3) := by decide +kernel
theorem bd_22_35 : decode (bn_b 22) 35 = .ok (.aload_n 0, 1) := by decide +kernel
theorem bd_22_36 : decode (bn_b 22) 36 = .ok (.iload_n 1, 1) := by decide +kernel
theorem bd_22_37 : decode (bn_b 22) 37 = .ok (.aload_n 0, 1) := by decide +kernel
theorem bd_22_38 : decode (bn_b 22) 38 = .ok (.getfield 45, 3) := by decide +kernel
theorem bd_22_41 : decode (bn_b 22) 41 = .ok (.iload_n 2, 1) := by decide +kernel
theorem bd_22_42 : decode (bn_b 22) 42 = .ok (.iaload, 1) := by decide +kernel
theorem bd_22_43 : decode (bn_b 22) 43 = .ok (.invokevirtual 102, 3) := by decide +kernel
theorem bd_22_46 : decode (bn_b 22) 46 = .ok (.ifCond .ne 7, 3) := by decide +kernel
theorem bd_22_49 : decode (bn_b 22) 49 = .ok (.iconst 1, 1) := by decide +kernel
theorem bd_22_50 : decode (bn_b 22) 50 = .ok (.goto 4, 3) := by decide +kernel
theorem bd_22_53 : decode (bn_b 22) 53 = .ok (.iconst 0, 1) := by decide +kernel
theorem bd_22_54 : decode (bn_b 22) 54 = .ok (.ireturn, 1) := by decide +kernel
theorem bd_23_0 : decode (bn_b 23) 0 = .ok (.iconst 0, 1) := by decide +kernel
theorem bd_23_1 : decode (bn_b 23) 1 = .ok (.istore_n 3, 1) := by decide +kernel
theorem bd_23_2 : decode (bn_b 23) 2 = .ok (.iload_n 3, 1) := by decide +kernel
theorem bd_23_3 : decode (bn_b 23) 3 = .ok (.aload_n 0, 1) := by decide +kernel
theorem bd_23_4 : decode (bn_b 23) 4 = .ok (.getfield 42, 3) := by decide +kernel
theorem bd_23_7 : decode (bn_b 23) 7 = .ok (.if_icmp .ge 74, 3) := by decide +kernel
theorem bd_23_10 : decode (bn_b 23) 10 = .ok (.aload_n 0, 1) := by decide +kernel
theorem bd_23_11 : decode (bn_b 23) 11 = .ok (.getfield 9, 3) := by decide +kernel
theorem bd_23_14 : decode (bn_b 23) 14 = .ok (.ifCond .ne 13, 3) := by decide +kernel
theorem bd_23_17 : decode (bn_b 23) 17 = .ok (.aload_n 0, 1) := by decide +kernel
theorem bd_23_18 : decode (bn_b 23) 18 = .ok (.getfield 48, 3) := by decide +kernel
theorem bd_23_21 : decode (bn_b 23) 21 = .ok (.iload_n 3, 1) := by decide +kernel
theorem bd_23_22 : decode (bn_b 23) 22 = .ok (.iaload, 1) := by decide +kernel
theorem bd_23_23 : decode (bn_b 23) 23 = .ok (.iload_n 1, 1) := by decide +kernel
theorem bd_23_24 : decode (bn_b 23) 24 = .ok (.if_icmp .eq 19, 3) := by decide +kernel
theorem bd_23_27 : decode (bn_b 23) 27 = .ok (.aload_n 0, 1) := by decide +kernel
theorem bd_23_28 : decode (bn_b 23) 28 = .ok (.getfield 9, 3) := by decide +kernel
theorem bd_23_31 : decode (bn_b 23) 31 = .ok (.iconst 1, 1) := by decide +kernel
theorem bd_23_32 : decode (bn_b 23) 32 = .ok (.if_icmp .ne 15, 3) := by decide +kernel
theorem bd_23_35 : decode (bn_b 23) 35 = .ok (.aload_n 0, 1) := by decide +kernel
theorem bd_23_36 : decode (bn_b 23) 36 = .ok (.iload_n 3, 1) := by decide +kernel
theorem bd_23_37 : decode (bn_b 23) 37 = .ok (.invokevirtual 80, 3) := by decide +kernel
theorem bd_23_40 : decode (bn_b 23) 40 = .ok (.ifCond .eq 7, 3) := by decide +kernel
theorem bd_23_43 : decode (bn_b 23) 43 = .ok (.iconst 1, 1) := by decide +kernel
theorem bd_23_44 : decode (bn_b 23) 44 = .ok (.goto 4, 3) := by decide +kernel
theorem bd_23_47 : decode (bn_b 23) 47 = .ok (.iconst 0, 1) := by decide +kernel
theorem bd_23_48 : decode (bn_b 23) 48 = .ok (.istore 4, 2) := by decide +kernel
theorem bd_23_50 : decode (bn_b 23) 50 = .ok (.iload 4, 2) := by decide +kernel
theorem bd_23_52 : decode (bn_b 23) 52 = .ok (.ifCond .eq 23, 3) := by decide +kernel
theorem bd_23_55 : decode (bn_b 23) 55 = .ok (.aload_n 0, 1) := by decide +kernel
theorem bd_23_56 : decode (bn_b 23) 56 = .ok (.getfield 45, 3) := by decide +kernel
theorem bd_23_59 : decode (bn_b 23) 59 = .ok (.iload_n 3, 1) := by decide +kernel
theorem bd_23_60 : decode (bn_b 23) 60 = .ok (.iaload, 1) := by decide +kernel
theorem bd_23_61 : decode (bn_b 23) 61 = .ok (.iload_n 2, 1) := by decide +kernel
theorem bd_23_62 : decode (bn_b 23) 62 = .ok (.if_icmp .ge 13, 3) := by decide +kernel
theorem bd_23_65 : decode (bn_b 23) 65 = .ok (.aload_n 0, 1) := by decide +kernel
theorem bd_23_66 : decode (bn_b 23) 66 = .ok (.iload_n 3, 1) := by decide +kernel
theorem bd_23_67 : decode (bn_b 23) 67 = .ok (.invokevirtual 87, 3) := by decide +kernel
theorem bd_23_70 : decode (bn_b 23) 70 = .ok (.ifCond .ne 5, 3) := by decide +kernel
theorem bd_23_73 : decode (bn_b 23) 73 = .ok (.iconst 1, 1) := by decide +kernel
theorem bd_23_74 : decode (bn_b 23) 74 = .ok (.ireturn, 1) := by decide +kernel
theorem bd_23_75 : decode (bn_b 23) 75 = .ok (.iinc 3 1, 3) := by decide +kernel
theorem bd_23_78 : decode (bn_b 23) 78 = .ok (.goto (-76), 3) := by decide +kernel
theorem bd_23_81 : decode (bn_b 23) 81 = .ok (.iconst 0, 1) := by decide +kernel
theorem bd_23_82 : decode (bn_b 23) 82 = .ok (.ireturn, 1) := by decide +kernel
theorem bd_24_0 : decode (bn_b 24) 0 = .ok (.aload_n 0, 1) := by decide +kernel
theorem bd_24_1 : decode (bn_b 24) 1 = .ok (.getfield 31, 3) := by decide +kernel
theorem bd_24_4 : decode (bn_b 24) 4 = .ok (.iload_n 1, 1) := by decide +kernel
theorem bd_24_5 : decode (bn_b 24) 5 = .ok (.iconst 0, 1) := by decide +kernel
theorem bd_24_6 : decode (bn_b 24) 6 = .ok (.iastore, 1) := by decide +kernel
theorem bd_24_7 : decode (bn_b 24) 7 = .ok (.aload_n 0, 1) := by decide +kernel
theorem bd_24_8 : decode (bn_b 24) 8 = .ok (.getfield 35, 3) := by decide +kernel
theorem bd_24_11 : decode (bn_b 24) 11 = .ok (.iload_n 1, 1) := by decide +kernel
theorem bd_24_12 : decode (bn_b 24) 12 = .ok (.iconst 1, 1) := by decide +kernel
theorem bd_24_13 : decode (bn_b 24) 13 = .ok (.bastore, 1) := by decide +kernel
theorem bd_24_14 : decode (bn_b 24) 14 = .ok (.aload_n 0, 1) := by decide +kernel
theorem bd_24_15 : decode (bn_b 24) 15 = .ok (.getfield 39, 3) := by decide +kernel
theorem bd_24_18 : decode (bn_b 24) 18 = .ok (.iload_n 1, 1) := by decide +kernel
theorem bd_24_19 : decode (bn_b 24) 19 = .ok (.dup2, 1) := by decide +kernel
theorem bd_24_20 : decode (bn_b 24) 20 = .ok (.iaload, 1) := by decide +kernel
theorem bd_24_21 : decode (bn_b 24) 21 = .ok (.iconst 1, 1) := by decide +kernel
theorem bd_24_22 : decode (bn_b 24) 22 = .ok (.iadd, 1) := by decide +kernel
theorem bd_24_23 : decode (bn_b 24) 23 = .ok (.iastore, 1) := by decide +kernel
theorem bd_24_24 : decode (bn_b 24) 24 = .ok (.aload_n 0, 1) := by decide +kernel
theorem bd_24_25 : decode (bn_b 24) 25 = .ok (.getfield 48, 3) := by decide +kernel
theorem bd_24_28 : decode (bn_b 24) 28 = .ok (.iload_n 2, 1) := by decide +kernel
theorem bd_24_29 : decode (bn_b 24) 29 = .ok (.bipush 20, 2) := by decide +kernel
theorem bd_24_31 : decode (bn_b 24) 31 = .ok (.iastore, 1) := by decide +kernel
theorem bd_24_32 : decode (bn_b 24) 32 = .ok (.aload_n 0, 1) := by decide +kernel
theorem bd_24_33 : decode (bn_b 24) 33 = .ok (.getfield 54, 3) := by decide +kernel
theorem bd_24_36 : decode (bn_b 24) 36 = .ok (.iload_n 2, 1) := by decide +kernel
theorem bd_24_37 : decode (bn_b 24) 37 = .ok (.iload_n 1, 1) := by decide +kernel
theorem bd_24_38 : decode (bn_b 24) 38 = .ok (.iastore, 1) := by decide +kernel
theorem bd_24_39 : decode (bn_b 24) 39 = .ok (.aload_n 0, 1) := by decide +kernel
theorem bd_24_40 : decode (bn_b 24) 40 = .ok (.getfield 57, 3) := by decide +kernel
theorem bd_24_43 : decode (bn_b 24) 43 = .ok (.iload_n 2, 1) := by decide +kernel
theorem bd_24_44 : decode (bn_b 24) 44 = .ok (.aload_n 0, 1) := by decide +kernel
theorem bd_24_45 : decode (bn_b 24) 45 = .ok (.getfield 21, 3) := by decide +kernel
theorem bd_24_48 : decode (bn_b 24) 48 = .ok (.iastore, 1) := by decide +kernel
theorem bd_24_49 : decode (bn_b 24) 49 = .ok (.return_, 1) := by decide +kernel
theorem bd_25_0 : decode (bn_b 25) 0 = .ok (.iconst 0, 1) := by decide +kernel
theorem bd_25_1 : decode (bn_b 25) 1 = .ok (.istore_n 1, 1) := by decide +kernel
theorem bd_25_2 : decode (bn_b 25) 2 = .ok (.iconst 0, 1) := by decide +kernel
theorem bd_25_3 : decode (bn_b 25) 3 = .ok (.istore_n 2, 1) := by decide +kernel
theorem bd_25_4 : decode (bn_b 25) 4 = .ok (.iload_n 2, 1) := by decide +kernel
theorem bd_25_5 : decode (bn_b 25) 5 = .ok (.aload_n 0, 1) := by decide +kernel
theorem bd_25_6 : decode (bn_b 25) 6 = .ok (.getfield 28, 3) := by decide +kernel
theorem bd_25_9 : decode (bn_b 25) 9 = .ok (.if_icmp .ge 62, 3) := by decide +kernel
theorem bd_25_12 : decode (bn_b 25) 12 = .ok (.aload_n 0, 1) := by decide +kernel
theorem bd_25_13 : decode (bn_b 25) 13 = .ok (.iload_n 2, 1) := by decide +kernel
theorem bd_25_14 : decode (bn_b 25) 14 = .ok (.invokevirtual 66, 3) := by decide +kernel
theorem bd_25_17 : decode (bn_b 25) 17 = .ok (.ifCond .eq 41, 3) := by decide +kernel
theorem bd_25_20 : decode (bn_b 25) 20 = .ok (.aload_n 0, 1) := by decide +kernel
theorem bd_25_21 : decode (bn_b 25) 21 = .ok (.getfield 35, 3) := by decide +kernel
theorem bd_25_24 : decode (bn_b 25) 24 = .ok (.iload_n 2, 1) := by decide +kernel
theorem bd_25_25 : decode (bn_b 25) 25 = .ok (.baload, 1) := by decide +kernel
theorem bd_25_26 : decode (bn_b 25) 26 = .ok (.ifCond .ne 32, 3) := by decide +kernel
theorem bd_25_29 : decode (bn_b 25) 29 = .ok (.aload_n 0, 1) := by decide +kernel
theorem bd_25_30 : decode (bn_b 25) 30 = .ok (.getfield 31, 3) := by decide +kernel
theorem bd_25_33 : decode (bn_b 25) 33 = .ok (.iload_n 2, 1) := by decide +kernel
theorem bd_25_34 : decode (bn_b 25) 34 = .ok (.dup2, 1) := by decide +kernel
theorem bd_25_35 : decode (bn_b 25) 35 = .ok (.iaload, 1) := by decide +kernel
theorem bd_25_36 : decode (bn_b 25) 36 = .ok (.iconst 1, 1) := by decide +kernel
theorem bd_25_37 : decode (bn_b 25) 37 = .ok (.iadd, 1) := by decide +kernel
theorem bd_25_38 : decode (bn_b 25) 38 = .ok (.iastore, 1) := by decide +kernel
theorem bd_25_39 : decode (bn_b 25) 39 = .ok (.aload_n 0, 1) := by decide +kernel
theorem bd_25_40 : decode (bn_b 25) 40 = .ok (.iload_n 2, 1) := by decide +kernel
theorem bd_25_41 : decode (bn_b 25) 41 = .ok (.invokevirtual 66, 3) := by decide +kernel
theorem bd_25_44 : decode (bn_b 25) 44 = .ok (.ifCond .ne 14, 3) := by decide +kernel
theorem bd_25_47 : decode (bn_b 25) 47 = .ok (.iload_n 1, 1) := by decide +kernel
theorem bd_25_48 : decode (bn_b 25) 48 = .ok (.iconst 1, 1) := by decide +kernel
theorem bd_25_49 : decode (bn_b 25) 49 = .ok (.iload_n 2, 1) := by decide +kernel
theorem bd_25_50 : decode (bn_b 25) 50 = .ok (.ishl, 1) := by decide +kernel
theorem bd_25_51 : decode (bn_b 25) 51 = .ok (.ior, 1) := by decide +kernel
theorem bd_25_52 : decode (bn_b 25) 52 = .ok (.istore_n 1, 1) := by decide +kernel
theorem bd_25_53 : decode (bn_b 25) 53 = .ok (.aload_n 0, 1) := by decide +kernel
theorem bd_25_54 : decode (bn_b 25) 54 = .ok (.iload_n 2, 1) := by decide +kernel
theorem bd_25_55 : decode (bn_b 25) 55 = .ok (.invokevirtual 105, 3) := by decide +kernel
theorem bd_25_58 : decode (bn_b 25) 58 = .ok (.aload_n 0, 1) := by decide +kernel
theorem bd_25_59 : decode (bn_b 25) 59 = .ok (.getfield 35, 3) := by decide +kernel
theorem bd_25_62 : decode (bn_b 25) 62 = .ok (.iload_n 2, 1) := by decide +kernel
theorem bd_25_63 : decode (bn_b 25) 63 = .ok (.iconst 0, 1) := by decide +kernel
theorem bd_25_64 : decode (bn_b 25) 64 = .ok (.bastore, 1) := by decide +kernel
theorem bd_25_65 : decode (bn_b 25) 65 = .ok (.iinc 2 1, 3) := by decide +kernel
theorem bd_25_68 : decode (bn_b 25) 68 = .ok (.goto (-64), 3) := by decide +kernel
theorem bd_25_71 : decode (bn_b 25) 71 = .ok (.iconst 0, 1) := by decide +kernel
theorem bd_25_72 : decode (bn_b 25) 72 = .ok (.istore_n 2, 1) := by decide +kernel
theorem bd_25_73 : decode (bn_b 25) 73 = .ok (.iload_n 2, 1) := by decide +kernel
theorem bd_25_74 : decode (bn_b 25) 74 = .ok (.aload_n 0, 1) := by decide +kernel
theorem bd_25_75 : decode (bn_b 25) 75 = .ok (.getfield 42, 3) := by decide +kernel
theorem bd_25_78 : decode (bn_b 25) 78 = .ok (.if_icmp .ge 39, 3) := by decide +kernel
theorem bd_25_81 : decode (bn_b 25) 81 = .ok (.aload_n 0, 1) := by decide +kernel
theorem bd_25_82 : decode (bn_b 25) 82 = .ok (.getfield 48, 3) := by decide +kernel
theorem bd_25_85 : decode (bn_b 25) 85 = .ok (.iload_n 2, 1) := by decide +kernel
theorem bd_25_86 : decode (bn_b 25) 86 = .ok (.iaload, 1) := by decide +kernel
theorem bd_25_87 : decode (bn_b 25) 87 = .ok (.bipush 20, 2) := by decide +kernel
theorem bd_25_89 : decode (bn_b 25) 89 = .ok (.if_icmp .eq 22, 3) := by decide +kernel
theorem bd_25_92 : decode (bn_b 25) 92 = .ok (.aload_n 0, 1) := by decide +kernel
theorem bd_25_93 : decode (bn_b 25) 93 = .ok (.getfield 51, 3) := by decide +kernel
theorem bd_25_96 : decode (bn_b 25) 96 = .ok (.iload_n 2, 1) := by decide +kernel
theorem bd_25_97 : decode (bn_b 25) 97 = .ok (.aload_n 0, 1) := by decide +kernel
theorem bd_25_98 : decode (bn_b 25) 98 = .ok (.getfield 51, 3) := by decide +kernel
theorem bd_25_101 : decode (bn_b 25) 101 = .ok (.iload_n 2, 1) := by decide +kernel
theorem bd_25_102 : decode (bn_b 25) 102 = .ok (.iaload, 1) := by decide +kernel
theorem bd_25_103 : decode (bn_b 25) 103 = .ok (.iconst 1, 1) := by decide +kernel
theorem bd_25_104 : decode (bn_b 25) 104 = .ok (.iadd, 1) := by decide +kernel
theorem bd_25_105 : decode (bn_b 25) 105 = .ok (.bipush 99, 2) := by decide +kernel
theorem bd_25_107 : decode (bn_b 25) 107 = .ok (.invokestatic 109, 3) := by decide +kernel
theorem bd_25_110 : decode (bn_b 25) 110 = .ok (.iastore, 1) := by decide +kernel
theorem bd_25_111 : decode (bn_b 25) 111 = .ok (.iinc 2 1, 3) := by decide +kernel
theorem bd_25_114 : decode (bn_b 25) 114 = .ok (.goto (-41), 3) := by decide +kernel
theorem bd_25_117 : decode (bn_b 25) 117 = .ok (.aload_n 0, 1) := by decide +kernel
theorem bd_25_118 : decode (bn_b 25) 118 = .ok (.dup, 1) := by decide +kernel
theorem bd_25_119 : decode (bn_b 25) 119 = .ok (.getfield 21, 3) := by decide +kernel
theorem bd_25_122 : decode (bn_b 25) 122 = .ok (.iconst 1, 1) := by decide +kernel
theorem bd_25_123 : decode (bn_b 25) 123 = .ok (.iadd, 1) := by decide +kernel
theorem bd_25_124 : decode (bn_b 25) 124 = .ok (.putfield 21, 3) := by decide +kernel
theorem bd_25_127 : decode (bn_b 25) 127 = .ok (.iload_n 1, 1) := by decide +kernel
theorem bd_25_128 : decode (bn_b 25) 128 = .ok (.ireturn, 1) := by decide +kernel
theorem bd_26_0 : decode (bn_b 26) 0 = .ok (.iconst 0, 1) := by decide +kernel
theorem bd_26_1 : decode (bn_b 26) 1 = .ok (.istore_n 2, 1) := by decide +kernel
theorem bd_26_2 : decode (bn_b 26) 2 = .ok (.iload_n 2, 1) := by decide +kernel
theorem bd_26_3 : decode (bn_b 26) 3 = .ok (.aload_n 0, 1) := by decide +kernel
theorem bd_26_4 : decode (bn_b 26) 4 = .ok (.getfield 42, 3) := by decide +kernel
theorem bd_26_7 : decode (bn_b 26) 7 = .ok (.if_icmp .ge 27, 3) := by decide +kernel
theorem bd_26_10 : decode (bn_b 26) 10 = .ok (.aload_n 0, 1) := by decide +kernel
theorem bd_26_11 : decode (bn_b 26) 11 = .ok (.getfield 48, 3) := by decide +kernel
theorem bd_26_14 : decode (bn_b 26) 14 = .ok (.iload_n 2, 1) := by decide +kernel
theorem bd_26_15 : decode (bn_b 26) 15 = .ok (.iaload, 1) := by decide +kernel
theorem bd_26_16 : decode (bn_b 26) 16 = .ok (.iload_n 1, 1) := by decide +kernel
theorem bd_26_17 : decode (bn_b 26) 17 = .ok (.if_icmp .ne 11, 3) := by decide +kernel
theorem bd_26_20 : decode (bn_b 26) 20 = .ok (.aload_n 0, 1) := by decide +kernel
theorem bd_26_21 : decode (bn_b 26) 21 = .ok (.getfield 48, 3) := by decide +kernel
theorem bd_26_24 : decode (bn_b 26) 24 = .ok (.iload_n 2, 1) := by decide +kernel
theorem bd_26_25 : decode (bn_b 26) 25 = .ok (.bipush 10, 2) := by decide +kernel
theorem bd_26_27 : decode (bn_b 26) 27 = .ok (.iastore, 1) := by decide +kernel
theorem bd_26_28 : decode (bn_b 26) 28 = .ok (.iinc 2 1, 3) := by decide +kernel
theorem bd_26_31 : decode (bn_b 26) 31 = .ok (.goto (-29), 3) := by decide +kernel
theorem bd_26_34 : decode (bn_b 26) 34 = .ok (.return_, 1) := by decide +kernel
theorem bd_27_0 : decode (bn_b 27) 0 = .ok (.iconst 0, 1) := by decide +kernel
theorem bd_27_1 : decode (bn_b 27) 1 = .ok (.istore_n 1, 1) := by decide +kernel
theorem bd_27_2 : decode (bn_b 27) 2 = .ok (.iload_n 1, 1) := by decide +kernel
theorem bd_27_3 : decode (bn_b 27) 3 = .ok (.aload_n 0, 1) := by decide +kernel
theorem bd_27_4 : decode (bn_b 27) 4 = .ok (.getfield 28, 3) := by decide +kernel
theorem bd_27_7 : decode (bn_b 27) 7 = .ok (.if_icmp .ge 25, 3) := by decide +kernel
theorem bd_27_10 : decode (bn_b 27) 10 = .ok (.aload_n 0, 1) := by decide +kernel
theorem bd_27_11 : decode (bn_b 27) 11 = .ok (.iload_n 1, 1) := by decide +kernel
theorem bd_27_12 : decode (bn_b 27) 12 = .ok (.invokevirtual 112, 3) := by decide +kernel
theorem bd_27_15 : decode (bn_b 27) 15 = .ok (.istore_n 2, 1) := by decide +kernel
theorem bd_27_16 : decode (bn_b 27) 16 = .ok (.iload_n 2, 1) := by decide +kernel
theorem bd_27_17 : decode (bn_b 27) 17 = .ok (.ifCond .lt 9, 3) := by decide +kernel
theorem bd_27_20 : decode (bn_b 27) 20 = .ok (.aload_n 0, 1) := by decide +kernel
theorem bd_27_21 : decode (bn_b 27) 21 = .ok (.iload_n 1, 1) := by decide +kernel
theorem bd_27_22 : decode (bn_b 27) 22 = .ok (.iload_n 2, 1) := by decide +kernel
theorem bd_27_23 : decode (bn_b 27) 23 = .ok (.invokevirtual 115, 3) := by decide +kernel
theorem bd_27_26 : decode (bn_b 27) 26 = .ok (.iinc 1 1, 3) := by decide +kernel
theorem bd_27_29 : decode (bn_b 27) 29 = .ok (.goto (-27), 3) := by decide +kernel
theorem bd_27_32 : decode (bn_b 27) 32 = .ok (.return_, 1) := by decide +kernel
theorem bd_28_0 : decode (bn_b 28) 0 = .ok (.bipush (-9), 2) := by decide +kernel
theorem bd_28_2 : decode (bn_b 28) 2 = .ok (.istore_n 2, 1) := by decide +kernel
theorem bd_28_3 : decode (bn_b 28) 3 = .ok (.iconst 0, 1) := by decide +kernel
theorem bd_28_4 : decode (bn_b 28) 4 = .ok (.istore_n 3, 1) := by decide +kernel
theorem bd_28_5 : decode (bn_b 28) 5 = .ok (.iload_n 3, 1) := by decide +kernel
theorem bd_28_6 : decode (bn_b 28) 6 = .ok (.aload_n 0, 1) := by decide +kernel
theorem bd_28_7 : decode (bn_b 28) 7 = .ok (.getfield 42, 3) := by decide +kernel
theorem bd_28_10 : decode (bn_b 28) 10 = .ok (.if_icmp .ge 39, 3) := by decide +kernel
theorem bd_28_13 : decode (bn_b 28) 13 = .ok (.aload_n 0, 1) := by decide +kernel
theorem bd_28_14 : decode (bn_b 28) 14 = .ok (.iload_n 1, 1) := by decide +kernel
theorem bd_28_15 : decode (bn_b 28) 15 = .ok (.iload_n 3, 1) := by decide +kernel
theorem bd_28_16 : decode (bn_b 28) 16 = .ok (.invokevirtual 119, 3) := by decide +kernel
theorem bd_28_19 : decode (bn_b 28) 19 = .ok (.ifCond .eq 24, 3) := by decide +kernel
theorem bd_28_22 : decode (bn_b 28) 22 = .ok (.iload_n 2, 1) := by decide +kernel
theorem bd_28_23 : decode (bn_b 28) 23 = .ok (.ifCond .lt 18, 3) := by decide +kernel
theorem bd_28_26 : decode (bn_b 28) 26 = .ok (.aload_n 0, 1) := by decide +kernel
theorem bd_28_27 : decode (bn_b 28) 27 = .ok (.getfield 45, 3) := by decide +kernel
theorem bd_28_30 : decode (bn_b 28) 30 = .ok (.iload_n 3, 1) := by decide +kernel
theorem bd_28_31 : decode (bn_b 28) 31 = .ok (.iaload, 1) := by decide +kernel
theorem bd_28_32 : decode (bn_b 28) 32 = .ok (.aload_n 0, 1) := by decide +kernel
theorem bd_28_33 : decode (bn_b 28) 33 = .ok (.getfield 45, 3) := by decide +kernel
theorem bd_28_36 : decode (bn_b 28) 36 = .ok (.iload_n 2, 1) := by decide +kernel
theorem bd_28_37 : decode (bn_b 28) 37 = .ok (.iaload, 1) := by decide +kernel
theorem bd_28_38 : decode (bn_b 28) 38 = .ok (.if_icmp .ge 5, 3) := by decide +kernel
theorem bd_28_41 : decode (bn_b 28) 41 = .ok (.iload_n 3, 1) := by decide +kernel
theorem bd_28_42 : decode (bn_b 28) 42 = .ok (.istore_n 2, 1) := by decide +kernel
theorem bd_28_43 : decode (bn_b 28) 43 = .ok (.iinc 3 1, 3) := by decide +kernel
theorem bd_28_46 : decode (bn_b 28) 46 = .ok (.goto (-41), 3) := by decide +kernel
theorem bd_28_49 : decode (bn_b 28) 49 = .ok (.iload_n 2, 1) := by decide +kernel
theorem bd_28_50 : decode (bn_b 28) 50 = .ok (.ireturn, 1) := by decide +kernel
theorem bd_29_0 : decode (bn_b 29) 0 = .ok (.iload_n 1, 1) := by decide +kernel
theorem bd_29_1 : decode (bn_b 29) 1 = .ok (.aload_n 0, 1) := by decide +kernel
theorem bd_29_2 : decode (bn_b 29) 2 = .ok (.getfield 15, 3) := by decide +kernel
theorem bd_29_5 : decode (bn_b 29) 5 = .ok (.isub, 1) := by decide +kernel
theorem bd_29_6 : decode (bn_b 29) 6 = .ok (.iconst 1, 1) := by decide +kernel
theorem bd_29_7 : decode (bn_b 29) 7 = .ok (.isub, 1) := by decide +kernel
theorem bd_29_8 : decode (bn_b 29) 8 = .ok (.istore_n 2, 1) := by decide +kernel
theorem bd_29_9 : decode (bn_b 29) 9 = .ok (.iconst 0, 1) := by decide +kernel
theorem bd_29_10 : decode (bn_b 29) 10 = .ok (.istore_n 3, 1) := by decide +kernel
theorem bd_29_11 : decode (bn_b 29) 11 = .ok (.iload_n 3, 1) := by decide +kernel
theorem bd_29_12 : decode (bn_b 29) 12 = .ok (.iload_n 2, 1) := by decide +kernel
theorem bd_29_13 : decode (bn_b 29) 13 = .ok (.iconst 0, 1) := by decide +kernel
theorem bd_29_14 : decode (bn_b 29) 14 = .ok (.invokestatic 90, 3) := by decide +kernel
theorem bd_29_17 : decode (bn_b 29) 17 = .ok (.if_icmp .gt 25, 3) := by decide +kernel
theorem bd_29_20 : decode (bn_b 29) 20 = .ok (.aload_n 0, 1) := by decide +kernel
theorem bd_29_21 : decode (bn_b 29) 21 = .ok (.iload_n 2, 1) := by decide +kernel
theorem bd_29_22 : decode (bn_b 29) 22 = .ok (.iload_n 3, 1) := by decide +kernel
theorem bd_29_23 : decode (bn_b 29) 23 = .ok (.invokevirtual 122, 3) := by decide +kernel
theorem bd_29_26 : decode (bn_b 29) 26 = .ok (.aload_n 0, 1) := by decide +kernel
theorem bd_29_27 : decode (bn_b 29) 27 = .ok (.iload_n 3, 1) := by decide +kernel
theorem bd_29_28 : decode (bn_b 29) 28 = .ok (.invokevirtual 125, 3) := by decide +kernel
theorem bd_29_31 : decode (bn_b 29) 31 = .ok (.if_icmp .le 5, 3) := by decide +kernel
theorem bd_29_34 : decode (bn_b 29) 34 = .ok (.iconst 0, 1) := by decide +kernel
theorem bd_29_35 : decode (bn_b 29) 35 = .ok (.ireturn, 1) := by decide +kernel
theorem bd_29_36 : decode (bn_b 29) 36 = .ok (.iinc 3 1, 3) := by decide +kernel
theorem bd_29_39 : decode (bn_b 29) 39 = .ok (.goto (-28), 3) := by decide +kernel
theorem bd_29_42 : decode (bn_b 29) 42 = .ok (.iconst 1, 1) := by decide +kernel
theorem bd_29_43 : decode (bn_b 29) 43 = .ok (.ireturn, 1) := by decide +kernel
theorem bd_30_0 : decode (bn_b 30) 0 = .ok (.iconst 0, 1) := by decide +kernel
theorem bd_30_1 : decode (bn_b 30) 1 = .ok (.istore_n 3, 1) := by decide +kernel
theorem bd_30_2 : decode (bn_b 30) 2 = .ok (.iconst 0, 1) := by decide +kernel
theorem bd_30_3 : decode (bn_b 30) 3 = .ok (.istore 4, 2) := by decide +kernel
theorem bd_30_5 : decode (bn_b 30) 5 = .ok (.iload 4, 2) := by decide +kernel
theorem bd_30_7 : decode (bn_b 30) 7 = .ok (.aload_n 0, 1) := by decide +kernel
theorem bd_30_8 : decode (bn_b 30) 8 = .ok (.getfield 28, 3) := by decide +kernel
theorem bd_30_11 : decode (bn_b 30) 11 = .ok (.if_icmp .ge 94, 3) := by decide +kernel
theorem bd_30_14 : decode (bn_b 30) 14 = .ok (.aload_n 0, 1) := by decide +kernel
theorem bd_30_15 : decode (bn_b 30) 15 = .ok (.iload 4, 2) := by decide +kernel
theorem bd_30_17 : decode (bn_b 30) 17 = .ok (.invokevirtual 66, 3) := by decide +kernel
theorem bd_30_20 : decode (bn_b 30) 20 = .ok (.ifCond .eq 79, 3) := by decide +kernel
theorem bd_30_23 : decode (bn_b 30) 23 = .ok (.aload_n 0, 1) := by decide +kernel
theorem bd_30_24 : decode (bn_b 30) 24 = .ok (.getfield 35, 3) := by decide +kernel
theorem bd_30_27 : decode (bn_b 30) 27 = .ok (.iload 4, 2) := by decide +kernel
theorem bd_30_29 : decode (bn_b 30) 29 = .ok (.baload, 1) := by decide +kernel
theorem bd_30_30 : decode (bn_b 30) 30 = .ok (.ifCond .eq 7, 3) := by decide +kernel
theorem bd_30_33 : decode (bn_b 30) 33 = .ok (.iconst 0, 1) := by decide +kernel
theorem bd_30_34 : decode (bn_b 30) 34 = .ok (.goto 12, 3) := by decide +kernel
theorem bd_30_37 : decode (bn_b 30) 37 = .ok (.iconst (-1), 1) := by decide +kernel
theorem bd_30_38 : decode (bn_b 30) 38 = .ok (.aload_n 0, 1) := by decide +kernel
theorem bd_30_39 : decode (bn_b 30) 39 = .ok (.getfield 31, 3) := by decide +kernel
theorem bd_30_42 : decode (bn_b 30) 42 = .ok (.iload 4, 2) := by decide +kernel
theorem bd_30_44 : decode (bn_b 30) 44 = .ok (.iaload, 1) := by decide +kernel
theorem bd_30_45 : decode (bn_b 30) 45 = .ok (.isub, 1) := by decide +kernel
theorem bd_30_46 : decode (bn_b 30) 46 = .ok (.istore 5, 2) := by decide +kernel
theorem bd_30_48 : decode (bn_b 30) 48 = .ok (.iload_n 1, 1) := by decide +kernel
theorem bd_30_49 : decode (bn_b 30) 49 = .ok (.istore 6, 2) := by decide +kernel
theorem bd_30_51 : decode (bn_b 30) 51 = .ok (.iconst 0, 1) := by decide +kernel
theorem bd_30_52 : decode (bn_b 30) 52 = .ok (.istore 7, 2) := by decide +kernel
theorem bd_30_54 : decode (bn_b 30) 54 = .ok (.iload 7, 2) := by decide +kernel
theorem bd_30_56 : decode (bn_b 30) 56 = .ok (.sipush 200, 3) := by decide +kernel
theorem bd_30_59 : decode (bn_b 30) 59 = .ok (.if_icmp .ge 40, 3) := by decide +kernel
theorem bd_30_62 : decode (bn_b 30) 62 = .ok (.iload 6, 2) := by decide +kernel
theorem bd_30_64 : decode (bn_b 30) 64 = .ok (.iload 5, 2) := by decide +kernel
theorem bd_30_66 : decode (bn_b 30) 66 = .ok (.if_icmp .le 33, 3) := by decide +kernel
theorem bd_30_69 : decode (bn_b 30) 69 = .ok (.iload 6, 2) := by decide +kernel
theorem bd_30_71 : decode (bn_b 30) 71 = .ok (.iconst 0, 1) := by decide +kernel
theorem bd_30_72 : decode (bn_b 30) 72 = .ok (.invokestatic 90, 3) := by decide +kernel
theorem bd_30_75 : decode (bn_b 30) 75 = .ok (.iload_n 2, 1) := by decide +kernel
theorem bd_30_76 : decode (bn_b 30) 76 = .ok (.if_icmp .lt 6, 3) := by decide +kernel
theorem bd_30_79 : decode (bn_b 30) 79 = .ok (.iinc 3 1, 3) := by decide +kernel
theorem bd_30_82 : decode (bn_b 30) 82 = .ok (.iload 6, 2) := by decide +kernel
theorem bd_30_84 : decode (bn_b 30) 84 = .ok (.aload_n 0, 1) := by decide +kernel
theorem bd_30_85 : decode (bn_b 30) 85 = .ok (.getfield 15, 3) := by decide +kernel
theorem bd_30_88 : decode (bn_b 30) 88 = .ok (.iconst 1, 1) := by decide +kernel
theorem bd_30_89 : decode (bn_b 30) 89 = .ok (.iadd, 1) := by decide +kernel
theorem bd_30_90 : decode (bn_b 30) 90 = .ok (.isub, 1) := by decide +kernel
theorem bd_30_91 : decode (bn_b 30) 91 = .ok (.istore 6, 2) := by decide +kernel
theorem bd_30_93 : decode (bn_b 30) 93 = .ok (.iinc 7 1, 3) := by decide +kernel
theorem bd_30_96 : decode (bn_b 30) 96 = .ok (.goto (-42), 3) := by decide +kernel
theorem bd_30_99 : decode (bn_b 30) 99 = .ok (.iinc 4 1, 3) := by decide +kernel
theorem bd_30_102 : decode (bn_b 30) 102 = .ok (.goto (-97), 3) := by decide +kernel
theorem bd_30_105 : decode (bn_b 30) 105 = .ok (.iload_n 3, 1) := by decide +kernel
theorem bd_30_106 : decode (bn_b 30) 106 = .ok (.ireturn, 1) := by decide +kernel
theorem bd_31_0 : decode (bn_b 31) 0 = .ok (.iconst 0, 1) := by decide +kernel
theorem bd_31_1 : decode (bn_b 31) 1 = .ok (.istore_n 2, 1) := by decide +kernel
theorem bd_31_2 : decode (bn_b 31) 2 = .ok (.iconst 0, 1) := by decide +kernel
theorem bd_31_3 : decode (bn_b 31) 3 = .ok (.istore_n 3, 1) := by decide +kernel
theorem bd_31_4 : decode (bn_b 31) 4 = .ok (.iload_n 3, 1) := by decide +kernel
theorem bd_31_5 : decode (bn_b 31) 5 = .ok (.aload_n 0, 1) := by decide +kernel
theorem bd_31_6 : decode (bn_b 31) 6 = .ok (.getfield 42, 3) := by decide +kernel
theorem bd_31_9 : decode (bn_b 31) 9 = .ok (.if_icmp .ge 35, 3) := by decide +kernel
theorem bd_31_12 : decode (bn_b 31) 12 = .ok (.aload_n 0, 1) := by decide +kernel
theorem bd_31_13 : decode (bn_b 31) 13 = .ok (.iload_n 3, 1) := by decide +kernel
theorem bd_31_14 : decode (bn_b 31) 14 = .ok (.invokevirtual 80, 3) := by decide +kernel
theorem bd_31_17 : decode (bn_b 31) 17 = .ok (.ifCond .eq 21, 3) := by decide +kernel
theorem bd_31_20 : decode (bn_b 31) 20 = .ok (.aload_n 0, 1) := by decide +kernel
theorem bd_31_21 : decode (bn_b 31) 21 = .ok (.getfield 51, 3) := by decide +kernel
theorem bd_31_24 : decode (bn_b 31) 24 = .ok (.iload_n 3, 1) := by decide +kernel
theorem bd_31_25 : decode (bn_b 31) 25 = .ok (.iaload, 1) := by decide +kernel
theorem bd_31_26 : decode (bn_b 31) 26 = .ok (.iload_n 1, 1) := by decide +kernel
theorem bd_31_27 : decode (bn_b 31) 27 = .ok (.iadd, 1) := by decide +kernel
theorem bd_31_28 : decode (bn_b 31) 28 = .ok (.aload_n 0, 1) := by decide +kernel
theorem bd_31_29 : decode (bn_b 31) 29 = .ok (.getfield 18, 3) := by decide +kernel
theorem bd_31_32 : decode (bn_b 31) 32 = .ok (.if_icmp .ge 6, 3) := by decide +kernel
theorem bd_31_35 : decode (bn_b 31) 35 = .ok (.iinc 2 1, 3) := by decide +kernel
theorem bd_31_38 : decode (bn_b 31) 38 = .ok (.iinc 3 1, 3) := by decide +kernel
theorem bd_31_41 : decode (bn_b 31) 41 = .ok (.goto (-37), 3) := by decide +kernel
theorem bd_31_44 : decode (bn_b 31) 44 = .ok (.iload_n 2, 1) := by decide +kernel
theorem bd_31_45 : decode (bn_b 31) 45 = .ok (.ireturn, 1) := by decide +kernel
