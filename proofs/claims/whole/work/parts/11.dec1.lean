/-! decode rows -/
theorem bd_32_0 : decode (bn_b 32) 0 = .ok (.aload_n 0, 1) := by decide +kernel
theorem bd_32_1 : decode (bn_b 32) 1 = .ok (.invokespecial 3, 3) := by decide +kernel
theorem bd_32_4 : decode (bn_b 32) 4 = .ok (.aload_n 0, 1) := by decide +kernel
theorem bd_32_5 : decode (bn_b 32) 5 = .ok (.bipush 80, 2) := by decide +kernel
theorem bd_32_7 : decode (bn_b 32) 7 = .ok (.newarray .int, 2) := by decide +kernel
theorem bd_32_9 : decode (bn_b 32) 9 = .ok (.putfield 9, 3) := by decide +kernel
theorem bd_32_12 : decode (bn_b 32) 12 = .ok (.aload_n 0, 1) := by decide +kernel
theorem bd_32_13 : decode (bn_b 32) 13 = .ok (.iconst 0, 1) := by decide +kernel
theorem bd_32_14 : decode (bn_b 32) 14 = .ok (.putfield 15, 3) := by decide +kernel
theorem bd_32_17 : decode (bn_b 32) 17 = .ok (.aload_n 0, 1) := by decide +kernel
theorem bd_32_18 : decode (bn_b 32) 18 = .ok (.iconst 0, 1) := by decide +kernel
theorem bd_32_19 : decode (bn_b 32) 19 = .ok (.putfield 19, 3) := by decide +kernel
theorem bd_32_22 : decode (bn_b 32) 22 = .ok (.return_, 1) := by decide +kernel
theorem bd_33_0 : decode (bn_b 33) 0 = .ok (.aload_n 0, 1) := by decide +kernel
theorem bd_33_1 : decode (bn_b 33) 1 = .ok (.getfield 15, 3) := by decide +kernel
theorem bd_33_4 : decode (bn_b 33) 4 = .ok (.bipush 80, 2) := by decide +kernel
theorem bd_33_6 : decode (bn_b 33) 6 = .ok (.if_icmp .ge 23, 3) := by decide +kernel
theorem bd_33_9 : decode (bn_b 33) 9 = .ok (.aload_n 0, 1) := by decide +kernel
theorem bd_33_10 : decode (bn_b 33) 10 = .ok (.getfield 9, 3) := by decide +kernel
theorem bd_33_13 : decode (bn_b 33) 13 = .ok (.aload_n 0, 1) := by decide +kernel
theorem bd_33_14 : decode (bn_b 33) 14 = .ok (.getfield 15, 3) := by decide +kernel
theorem bd_33_17 : decode (bn_b 33) 17 = .ok (.iload_n 1, 1) := by decide +kernel
theorem bd_33_18 : decode (bn_b 33) 18 = .ok (.iastore, 1) := by decide +kernel
theorem bd_33_19 : decode (bn_b 33) 19 = .ok (.aload_n 0, 1) := by decide +kernel
theorem bd_33_20 : decode (bn_b 33) 20 = .ok (.dup, 1) := by decide +kernel
theorem bd_33_21 : decode (bn_b 33) 21 = .ok (.getfield 15, 3) := by decide +kernel
theorem bd_33_24 : decode (bn_b 33) 24 = .ok (.iconst 1, 1) := by decide +kernel
theorem bd_33_25 : decode (bn_b 33) 25 = .ok (.iadd, 1) := by decide +kernel
theorem bd_33_26 : decode (bn_b 33) 26 = .ok (.putfield 15, 3) := by decide +kernel
theorem bd_33_29 : decode (bn_b 33) 29 = .ok (.return_, 1) := by decide +kernel
theorem bd_34_0 : decode (bn_b 34) 0 = .ok (.aload_n 0, 1) := by decide +kernel
theorem bd_34_1 : decode (bn_b 34) 1 = .ok (.iconst 0, 1) := by decide +kernel
theorem bd_34_2 : decode (bn_b 34) 2 = .ok (.putfield 19, 3) := by decide +kernel
theorem bd_34_5 : decode (bn_b 34) 5 = .ok (.aload_n 0, 1) := by decide +kernel
theorem bd_34_6 : decode (bn_b 34) 6 = .ok (.aload_n 1, 1) := by decide +kernel
theorem bd_34_7 : decode (bn_b 34) 7 = .ok (.invokevirtual 22, 3) := by decide +kernel
theorem bd_34_10 : decode (bn_b 34) 10 = .ok (.ifCond .ne 8, 3) := by decide +kernel
theorem bd_34_13 : decode (bn_b 34) 13 = .ok (.aload_n 0, 1) := by decide +kernel
theorem bd_34_14 : decode (bn_b 34) 14 = .ok (.getfield 19, 3) := by decide +kernel
theorem bd_34_17 : decode (bn_b 34) 17 = .ok (.ireturn, 1) := by decide +kernel
theorem bd_34_18 : decode (bn_b 34) 18 = .ok (.iconst 0, 1) := by decide +kernel
theorem bd_34_19 : decode (bn_b 34) 19 = .ok (.istore_n 2, 1) := by decide +kernel
theorem bd_34_20 : decode (bn_b 34) 20 = .ok (.iload_n 2, 1) := by decide +kernel
theorem bd_34_21 : decode (bn_b 34) 21 = .ok (.bipush 15, 2) := by decide +kernel
theorem bd_34_23 : decode (bn_b 34) 23 = .ok (.if_icmp .ge 52, 3) := by decide +kernel
theorem bd_34_26 : decode (bn_b 34) 26 = .ok (.aload_n 0, 1) := by decide +kernel
theorem bd_34_27 : decode (bn_b 34) 27 = .ok (.getfield 19, 3) := by decide +kernel
theorem bd_34_30 : decode (bn_b 34) 30 = .ok (.aload_n 0, 1) := by decide +kernel
theorem bd_34_31 : decode (bn_b 34) 31 = .ok (.getfield 15, 3) := by decide +kernel
theorem bd_34_34 : decode (bn_b 34) 34 = .ok (.if_icmp .ge 41, 3) := by decide +kernel
theorem bd_34_37 : decode (bn_b 34) 37 = .ok (.aload_n 0, 1) := by decide +kernel
theorem bd_34_38 : decode (bn_b 34) 38 = .ok (.bipush 80, 2) := by decide +kernel
theorem bd_34_40 : decode (bn_b 34) 40 = .ok (.invokevirtual 26, 3) := by decide +kernel
theorem bd_34_43 : decode (bn_b 34) 43 = .ok (.ifCond .eq 11, 3) := by decide +kernel
theorem bd_34_46 : decode (bn_b 34) 46 = .ok (.aload_n 0, 1) := by decide +kernel
theorem bd_34_47 : decode (bn_b 34) 47 = .ok (.aload_n 1, 1) := by decide +kernel
theorem bd_34_48 : decode (bn_b 34) 48 = .ok (.invokevirtual 30, 3) := by decide +kernel
theorem bd_34_51 : decode (bn_b 34) 51 = .ok (.goto 8, 3) := by decide +kernel
theorem bd_34_54 : decode (bn_b 34) 54 = .ok (.aload_n 0, 1) := by decide +kernel
theorem bd_34_55 : decode (bn_b 34) 55 = .ok (.aload_n 1, 1) := by decide +kernel
theorem bd_34_56 : decode (bn_b 34) 56 = .ok (.invokevirtual 33, 3) := by decide +kernel
theorem bd_34_59 : decode (bn_b 34) 59 = .ok (.istore_n 3, 1) := by decide +kernel
theorem bd_34_60 : decode (bn_b 34) 60 = .ok (.iload_n 3, 1) := by decide +kernel
theorem bd_34_61 : decode (bn_b 34) 61 = .ok (.ifCond .ne 8, 3) := by decide +kernel
theorem bd_34_64 : decode (bn_b 34) 64 = .ok (.aload_n 0, 1) := by decide +kernel
theorem bd_34_65 : decode (bn_b 34) 65 = .ok (.getfield 19, 3) := by decide +kernel
theorem bd_34_68 : decode (bn_b 34) 68 = .ok (.ireturn, 1) := by decide +kernel
theorem bd_34_69 : decode (bn_b 34) 69 = .ok (.iinc 2 1, 3) := by decide +kernel
theorem bd_34_72 : decode (bn_b 34) 72 = .ok (.goto (-52), 3) := by decide +kernel
theorem bd_34_75 : decode (bn_b 34) 75 = .ok (.aload_n 0, 1) := by decide +kernel
theorem bd_34_76 : decode (bn_b 34) 76 = .ok (.getfield 19, 3) := by decide +kernel
theorem bd_34_79 : decode (bn_b 34) 79 = .ok (.aload_n 0, 1) := by decide +kernel
theorem bd_34_80 : decode (bn_b 34) 80 = .ok (.getfield 15, 3) := by decide +kernel
theorem bd_34_83 : decode (bn_b 34) 83 = .ok (.if_icmp .ge 10, 3) := by decide +kernel
theorem bd_34_86 : decode (bn_b 34) 86 = .ok (.aload_n 0, 1) := by decide +kernel
theorem bd_34_87 : decode (bn_b 34) 87 = .ok (.getfield 19, 3) := by decide +kernel
theorem bd_34_90 : decode (bn_b 34) 90 = .ok (.goto 5, 3) := by decide +kernel
theorem bd_34_93 : decode (bn_b 34) 93 = .ok (.bipush (-9), 2) := by decide +kernel
theorem bd_34_95 : decode (bn_b 34) 95 = .ok (.ireturn, 1) := by decide +kernel
theorem bd_35_0 : decode (bn_b 35) 0 = .ok (.aload_n 0, 1) := by decide +kernel
theorem bd_35_1 : decode (bn_b 35) 1 = .ok (.bipush 83, 2) := by decide +kernel
theorem bd_35_3 : decode (bn_b 35) 3 = .ok (.invokevirtual 36, 3) := by decide +kernel
theorem bd_35_6 : decode (bn_b 35) 6 = .ok (.ifCond .ne 5, 3) := by decide +kernel
theorem bd_35_9 : decode (bn_b 35) 9 = .ok (.iconst 0, 1) := by decide +kernel
theorem bd_35_10 : decode (bn_b 35) 10 = .ok (.ireturn, 1) := by decide +kernel
theorem bd_35_11 : decode (bn_b 35) 11 = .ok (.aload_n 0, 1) := by decide +kernel
theorem bd_35_12 : decode (bn_b 35) 12 = .ok (.iconst 0, 1) := by decide +kernel
theorem bd_35_13 : decode (bn_b 35) 13 = .ok (.iconst 2, 1) := by decide +kernel
theorem bd_35_14 : decode (bn_b 35) 14 = .ok (.invokevirtual 39, 3) := by decide +kernel
theorem bd_35_17 : decode (bn_b 35) 17 = .ok (.istore_n 2, 1) := by decide +kernel
theorem bd_35_18 : decode (bn_b 35) 18 = .ok (.iload_n 2, 1) := by decide +kernel
theorem bd_35_19 : decode (bn_b 35) 19 = .ok (.ifCond .ge 8, 3) := by decide +kernel
theorem bd_35_22 : decode (bn_b 35) 22 = .ok (.bipush (-9), 2) := by decide +kernel
theorem bd_35_24 : decode (bn_b 35) 24 = .ok (.goto 10, 3) := by decide +kernel
theorem bd_35_27 : decode (bn_b 35) 27 = .ok (.aload_n 0, 1) := by decide +kernel
theorem bd_35_28 : decode (bn_b 35) 28 = .ok (.iconst 1, 1) := by decide +kernel
theorem bd_35_29 : decode (bn_b 35) 29 = .ok (.bipush 9, 2) := by decide +kernel
theorem bd_35_31 : decode (bn_b 35) 31 = .ok (.invokevirtual 39, 3) := by decide +kernel
theorem bd_35_34 : decode (bn_b 35) 34 = .ok (.istore_n 3, 1) := by decide +kernel
theorem bd_35_35 : decode (bn_b 35) 35 = .ok (.iload_n 3, 1) := by decide +kernel
theorem bd_35_36 : decode (bn_b 35) 36 = .ok (.ifCond .ge 8, 3) := by decide +kernel
theorem bd_35_39 : decode (bn_b 35) 39 = .ok (.bipush (-9), 2) := by decide +kernel
theorem bd_35_41 : decode (bn_b 35) 41 = .ok (.goto 10, 3) := by decide +kernel
theorem bd_35_44 : decode (bn_b 35) 44 = .ok (.aload_n 0, 1) := by decide +kernel
theorem bd_35_45 : decode (bn_b 35) 45 = .ok (.iconst 1, 1) := by decide +kernel
theorem bd_35_46 : decode (bn_b 35) 46 = .ok (.bipush 9, 2) := by decide +kernel
theorem bd_35_48 : decode (bn_b 35) 48 = .ok (.invokevirtual 39, 3) := by decide +kernel
theorem bd_35_51 : decode (bn_b 35) 51 = .ok (.istore 4, 2) := by decide +kernel
theorem bd_35_53 : decode (bn_b 35) 53 = .ok (.iload 4, 2) := by decide +kernel
theorem bd_35_55 : decode (bn_b 35) 55 = .ok (.ifCond .ge 5, 3) := by decide +kernel
theorem bd_35_58 : decode (bn_b 35) 58 = .ok (.iconst 0, 1) := by decide +kernel
theorem bd_35_59 : decode (bn_b 35) 59 = .ok (.ireturn, 1) := by decide +kernel
theorem bd_35_60 : decode (bn_b 35) 60 = .ok (.aload_n 1, 1) := by decide +kernel
theorem bd_35_61 : decode (bn_b 35) 61 = .ok (.iload_n 2, 1) := by decide +kernel
theorem bd_35_62 : decode (bn_b 35) 62 = .ok (.iload_n 3, 1) := by decide +kernel
theorem bd_35_63 : decode (bn_b 35) 63 = .ok (.iload 4, 2) := by decide +kernel
theorem bd_35_65 : decode (bn_b 35) 65 = .ok (.invokevirtual 43, 3) := by decide +kernel
theorem bd_35_68 : decode (bn_b 35) 68 = .ok (.iconst 1, 1) := by decide +kernel
theorem bd_35_69 : decode (bn_b 35) 69 = .ok (.ireturn, 1) := by decide +kernel
theorem bd_36_0 : decode (bn_b 36) 0 = .ok (.aload_n 1, 1) := by decide +kernel
theorem bd_36_1 : decode (bn_b 36) 1 = .ok (.getfield 49, 3) := by decide +kernel
theorem bd_36_4 : decode (bn_b 36) 4 = .ok (.iconst 5, 1) := by decide +kernel
theorem bd_36_5 : decode (bn_b 36) 5 = .ok (.if_icmp .ge 12, 3) := by decide +kernel
theorem bd_36_8 : decode (bn_b 36) 8 = .ok (.aload_n 0, 1) := by decide +kernel
theorem bd_36_9 : decode (bn_b 36) 9 = .ok (.bipush 80, 2) := by decide +kernel
theorem bd_36_11 : decode (bn_b 36) 11 = .ok (.invokevirtual 36, 3) := by decide +kernel
theorem bd_36_14 : decode (bn_b 36) 14 = .ok (.ifCond .ne 5, 3) := by decide +kernel
theorem bd_36_17 : decode (bn_b 36) 17 = .ok (.iconst 0, 1) := by decide +kernel
theorem bd_36_18 : decode (bn_b 36) 18 = .ok (.ireturn, 1) := by decide +kernel
theorem bd_36_19 : decode (bn_b 36) 19 = .ok (.aload_n 0, 1) := by decide +kernel
theorem bd_36_20 : decode (bn_b 36) 20 = .ok (.iconst 0, 1) := by decide +kernel
theorem bd_36_21 : decode (bn_b 36) 21 = .ok (.aload_n 1, 1) := by decide +kernel
theorem bd_36_22 : decode (bn_b 36) 22 = .ok (.getfield 52, 3) := by decide +kernel
theorem bd_36_25 : decode (bn_b 36) 25 = .ok (.invokevirtual 39, 3) := by decide +kernel
theorem bd_36_28 : decode (bn_b 36) 28 = .ok (.istore_n 2, 1) := by decide +kernel
theorem bd_36_29 : decode (bn_b 36) 29 = .ok (.iload_n 2, 1) := by decide +kernel
theorem bd_36_30 : decode (bn_b 36) 30 = .ok (.ifCond .ge 5, 3) := by decide +kernel
theorem bd_36_33 : decode (bn_b 36) 33 = .ok (.iconst 0, 1) := by decide +kernel
theorem bd_36_34 : decode (bn_b 36) 34 = .ok (.ireturn, 1) := by decide +kernel
theorem bd_36_35 : decode (bn_b 36) 35 = .ok (.aload_n 1, 1) := by decide +kernel
theorem bd_36_36 : decode (bn_b 36) 36 = .ok (.iload_n 2, 1) := by decide +kernel
theorem bd_36_37 : decode (bn_b 36) 37 = .ok (.invokevirtual 55, 3) := by decide +kernel
theorem bd_36_40 : decode (bn_b 36) 40 = .ok (.iconst 1, 1) := by decide +kernel
theorem bd_36_41 : decode (bn_b 36) 41 = .ok (.ireturn, 1) := by decide +kernel
theorem bd_37_0 : decode (bn_b 37) 0 = .ok (.aload_n 1, 1) := by decide +kernel
theorem bd_37_1 : decode (bn_b 37) 1 = .ok (.getfield 49, 3) := by decide +kernel
theorem bd_37_4 : decode (bn_b 37) 4 = .ok (.ifCond .eq 21, 3) := by decide +kernel
theorem bd_37_7 : decode (bn_b 37) 7 = .ok (.aload_n 1, 1) := by decide +kernel
theorem bd_37_8 : decode (bn_b 37) 8 = .ok (.getfield 59, 3) := by decide +kernel
theorem bd_37_11 : decode (bn_b 37) 11 = .ok (.bipush 10, 2) := by decide +kernel
theorem bd_37_13 : decode (bn_b 37) 13 = .ok (.if_icmp .ge 12, 3) := by decide +kernel
theorem bd_37_16 : decode (bn_b 37) 16 = .ok (.aload_n 0, 1) := by decide +kernel
theorem bd_37_17 : decode (bn_b 37) 17 = .ok (.bipush 76, 2) := by decide +kernel
theorem bd_37_19 : decode (bn_b 37) 19 = .ok (.invokevirtual 36, 3) := by decide +kernel
theorem bd_37_22 : decode (bn_b 37) 22 = .ok (.ifCond .ne 5, 3) := by decide +kernel
theorem bd_37_25 : decode (bn_b 37) 25 = .ok (.iconst 0, 1) := by decide +kernel
theorem bd_37_26 : decode (bn_b 37) 26 = .ok (.ireturn, 1) := by decide +kernel
theorem bd_37_27 : decode (bn_b 37) 27 = .ok (.aload_n 0, 1) := by decide +kernel
theorem bd_37_28 : decode (bn_b 37) 28 = .ok (.aload_n 1, 1) := by decide +kernel
theorem bd_37_29 : decode (bn_b 37) 29 = .ok (.invokevirtual 62, 3) := by decide +kernel
theorem bd_37_32 : decode (bn_b 37) 32 = .ok (.istore_n 2, 1) := by decide +kernel
theorem bd_37_33 : decode (bn_b 37) 33 = .ok (.iload_n 2, 1) := by decide +kernel
theorem bd_37_34 : decode (bn_b 37) 34 = .ok (.ifCond .ge 8, 3) := by decide +kernel
theorem bd_37_37 : decode (bn_b 37) 37 = .ok (.bipush (-9), 2) := by decide +kernel
theorem bd_37_39 : decode (bn_b 37) 39 = .ok (.goto 14, 3) := by decide +kernel
theorem bd_37_42 : decode (bn_b 37) 42 = .ok (.aload_n 0, 1) := by decide +kernel
theorem bd_37_43 : decode (bn_b 37) 43 = .ok (.iconst 0, 1) := by decide +kernel
theorem bd_37_44 : decode (bn_b 37) 44 = .ok (.aload_n 1, 1) := by decide +kernel
theorem bd_37_45 : decode (bn_b 37) 45 = .ok (.getfield 49, 3) := by decide +kernel
theorem bd_37_48 : decode (bn_b 37) 48 = .ok (.iconst 1, 1) := by decide +kernel
theorem bd_37_49 : decode (bn_b 37) 49 = .ok (.isub, 1) := by decide +kernel
theorem bd_37_50 : decode (bn_b 37) 50 = .ok (.invokevirtual 39, 3) := by decide +kernel
theorem bd_37_53 : decode (bn_b 37) 53 = .ok (.istore_n 3, 1) := by decide +kernel
theorem bd_37_54 : decode (bn_b 37) 54 = .ok (.iload_n 3, 1) := by decide +kernel
theorem bd_37_55 : decode (bn_b 37) 55 = .ok (.ifCond .ge 8, 3) := by decide +kernel
theorem bd_37_58 : decode (bn_b 37) 58 = .ok (.bipush (-9), 2) := by decide +kernel
theorem bd_37_60 : decode (bn_b 37) 60 = .ok (.goto 10, 3) := by decide +kernel
theorem bd_37_63 : decode (bn_b 37) 63 = .ok (.aload_n 0, 1) := by decide +kernel
theorem bd_37_64 : decode (bn_b 37) 64 = .ok (.iconst 0, 1) := by decide +kernel
theorem bd_37_65 : decode (bn_b 37) 65 = .ok (.bipush 9, 2) := by decide +kernel
theorem bd_37_67 : decode (bn_b 37) 67 = .ok (.invokevirtual 39, 3) := by decide +kernel
theorem bd_37_70 : decode (bn_b 37) 70 = .ok (.istore 4, 2) := by decide +kernel
theorem bd_37_72 : decode (bn_b 37) 72 = .ok (.iload 4, 2) := by decide +kernel
theorem bd_37_74 : decode (bn_b 37) 74 = .ok (.ifCond .ge 5, 3) := by decide +kernel
theorem bd_37_77 : decode (bn_b 37) 77 = .ok (.iconst 0, 1) := by decide +kernel
theorem bd_37_78 : decode (bn_b 37) 78 = .ok (.ireturn, 1) := by decide +kernel
theorem bd_37_79 : decode (bn_b 37) 79 = .ok (.aload_n 1, 1) := by decide +kernel
theorem bd_37_80 : decode (bn_b 37) 80 = .ok (.iload_n 2, 1) := by decide +kernel
theorem bd_37_81 : decode (bn_b 37) 81 = .ok (.iload_n 3, 1) := by decide +kernel
theorem bd_37_82 : decode (bn_b 37) 82 = .ok (.iload 4, 2) := by decide +kernel
theorem bd_37_84 : decode (bn_b 37) 84 = .ok (.invokevirtual 66, 3) := by decide +kernel
theorem bd_37_87 : decode (bn_b 37) 87 = .ok (.iconst 1, 1) := by decide +kernel
theorem bd_37_88 : decode (bn_b 37) 88 = .ok (.ireturn, 1) := by decide +kernel
theorem bd_38_0 : decode (bn_b 38) 0 = .ok (.aload_n 0, 1) := by decide +kernel
theorem bd_38_1 : decode (bn_b 38) 1 = .ok (.invokevirtual 69, 3) := by decide +kernel
theorem bd_38_4 : decode (bn_b 38) 4 = .ok (.istore_n 2, 1) := by decide +kernel
theorem bd_38_5 : decode (bn_b 38) 5 = .ok (.iload_n 2, 1) := by decide +kernel
theorem bd_38_6 : decode (bn_b 38) 6 = .ok (.ifCond .lt 11, 3) := by decide +kernel
theorem bd_38_9 : decode (bn_b 38) 9 = .ok (.aload_n 1, 1) := by decide +kernel
theorem bd_38_10 : decode (bn_b 38) 10 = .ok (.iload_n 2, 1) := by decide +kernel
theorem bd_38_11 : decode (bn_b 38) 11 = .ok (.invokestatic 73, 3) := by decide +kernel
theorem bd_38_14 : decode (bn_b 38) 14 = .ok (.ifCond .ne 6, 3) := by decide +kernel
theorem bd_38_17 : decode (bn_b 38) 17 = .ok (.bipush (-9), 2) := by decide +kernel
theorem bd_38_19 : decode (bn_b 38) 19 = .ok (.ireturn, 1) := by decide +kernel
theorem bd_38_20 : decode (bn_b 38) 20 = .ok (.aload_n 0, 1) := by decide +kernel
theorem bd_38_21 : decode (bn_b 38) 21 = .ok (.dup, 1) := by decide +kernel
theorem bd_38_22 : decode (bn_b 38) 22 = .ok (.getfield 19, 3) := by decide +kernel
theorem bd_38_25 : decode (bn_b 38) 25 = .ok (.iconst 1, 1) := by decide +kernel
theorem bd_38_26 : decode (bn_b 38) 26 = .ok (.iadd, 1) := by decide +kernel
theorem bd_38_27 : decode (bn_b 38) 27 = .ok (.putfield 19, 3) := by decide +kernel
theorem bd_38_30 : decode (bn_b 38) 30 = .ok (.aload_n 0, 1) := by decide +kernel
theorem bd_38_31 : decode (bn_b 38) 31 = .ok (.invokevirtual 69, 3) := by decide +kernel
theorem bd_38_34 : decode (bn_b 38) 34 = .ok (.istore_n 3, 1) := by decide +kernel
theorem bd_38_35 : decode (bn_b 38) 35 = .ok (.iload_n 3, 1) := by decide +kernel
theorem bd_38_36 : decode (bn_b 38) 36 = .ok (.ifCond .lt 16, 3) := by decide +kernel
theorem bd_38_39 : decode (bn_b 38) 39 = .ok (.aload_n 1, 1) := by decide +kernel
theorem bd_38_40 : decode (bn_b 38) 40 = .ok (.bipush 10, 2) := by decide +kernel
theorem bd_38_42 : decode (bn_b 38) 42 = .ok (.iload_n 2, 1) := by decide +kernel
theorem bd_38_43 : decode (bn_b 38) 43 = .ok (.imul, 1) := by decide +kernel
theorem bd_38_44 : decode (bn_b 38) 44 = .ok (.iload_n 3, 1) := by decide +kernel
theorem bd_38_45 : decode (bn_b 38) 45 = .ok (.iadd, 1) := by decide +kernel
theorem bd_38_46 : decode (bn_b 38) 46 = .ok (.invokestatic 77, 3) := by decide +kernel
theorem bd_38_49 : decode (bn_b 38) 49 = .ok (.ifCond .ne 6, 3) := by decide +kernel
theorem bd_38_52 : decode (bn_b 38) 52 = .ok (.bipush (-9), 2) := by decide +kernel
theorem bd_38_54 : decode (bn_b 38) 54 = .ok (.ireturn, 1) := by decide +kernel
theorem bd_38_55 : decode (bn_b 38) 55 = .ok (.aload_n 0, 1) := by decide +kernel
theorem bd_38_56 : decode (bn_b 38) 56 = .ok (.dup, 1) := by decide +kernel
theorem bd_38_57 : decode (bn_b 38) 57 = .ok (.getfield 19, 3) := by decide +kernel
theorem bd_38_60 : decode (bn_b 38) 60 = .ok (.iconst 1, 1) := by decide +kernel
theorem bd_38_61 : decode (bn_b 38) 61 = .ok (.iadd, 1) := by decide +kernel
theorem bd_38_62 : decode (bn_b 38) 62 = .ok (.putfield 19, 3) := by decide +kernel
theorem bd_38_65 : decode (bn_b 38) 65 = .ok (.bipush 10, 2) := by decide +kernel
theorem bd_38_67 : decode (bn_b 38) 67 = .ok (.iload_n 2, 1) := by decide +kernel
theorem bd_38_68 : decode (bn_b 38) 68 = .ok (.imul, 1) := by decide +kernel
theorem bd_38_69 : decode (bn_b 38) 69 = .ok (.iload_n 3, 1) := by decide +kernel
theorem bd_38_70 : decode (bn_b 38) 70 = .ok (.iadd, 1) := by decide +kernel
theorem bd_38_71 : decode (bn_b 38) 71 = .ok (.ireturn, 1) := by decide +kernel
theorem bd_39_0 : decode (bn_b 39) 0 = .ok (.iconst 0, 1) := by decide +kernel
theorem bd_39_1 : decode (bn_b 39) 1 = .ok (.istore_n 2, 1) := by decide +kernel
theorem bd_39_2 : decode (bn_b 39) 2 = .ok (.iload_n 2, 1) := by decide +kernel
theorem bd_39_3 : decode (bn_b 39) 3 = .ok (.bipush 9, 2) := by decide +kernel
theorem bd_39_5 : decode (bn_b 39) 5 = .ok (.if_icmp .gt 24, 3) := by decide +kernel
theorem bd_39_8 : decode (bn_b 39) 8 = .ok (.aload_n 0, 1) := by decide +kernel
theorem bd_39_9 : decode (bn_b 39) 9 = .ok (.bipush 10, 2) := by decide +kernel
theorem bd_39_11 : decode (bn_b 39) 11 = .ok (.iload_n 1, 1) := by decide +kernel
theorem bd_39_12 : decode (bn_b 39) 12 = .ok (.imul, 1) := by decide +kernel
theorem bd_39_13 : decode (bn_b 39) 13 = .ok (.iload_n 2, 1) := by decide +kernel
theorem bd_39_14 : decode (bn_b 39) 14 = .ok (.iadd, 1) := by decide +kernel
theorem bd_39_15 : decode (bn_b 39) 15 = .ok (.invokestatic 77, 3) := by decide +kernel
theorem bd_39_18 : decode (bn_b 39) 18 = .ok (.ifCond .eq 5, 3) := by decide +kernel
theorem bd_39_21 : decode (bn_b 39) 21 = .ok (.iconst 1, 1) := by decide +kernel
theorem bd_39_22 : decode (bn_b 39) 22 = .ok (.ireturn, 1) := by decide +kernel
theorem bd_39_23 : decode (bn_b 39) 23 = .ok (.iinc 2 1, 3) := by decide +kernel
theorem bd_39_26 : decode (bn_b 39) 26 = .ok (.goto (-24), 3) := by decide +kernel
theorem bd_39_29 : decode (bn_b 39) 29 = .ok (.iconst 0, 1) := by decide +kernel
theorem bd_39_30 : decode (bn_b 39) 30 = .ok (.ireturn, 1) := by decide +kernel
theorem bd_40_0 : decode (bn_b 40) 0 = .ok (.iload_n 1, 1) := by decide +kernel
theorem bd_40_1 : decode (bn_b 40) 1 = .ok (.iconst 1, 1) := by decide +kernel
theorem bd_40_2 : decode (bn_b 40) 2 = .ok (.if_icmp .lt 15, 3) := by decide +kernel
theorem bd_40_5 : decode (bn_b 40) 5 = .ok (.aload_n 0, 1) := by decide +kernel
theorem bd_40_6 : decode (bn_b 40) 6 = .ok (.iload_n 1, 1) := by decide +kernel
theorem bd_40_7 : decode (bn_b 40) 7 = .ok (.invokevirtual 80, 3) := by decide +kernel
theorem bd_40_10 : decode (bn_b 40) 10 = .ok (.ifCond .ne 7, 3) := by decide +kernel
theorem bd_40_13 : decode (bn_b 40) 13 = .ok (.iconst 1, 1) := by decide +kernel
theorem bd_40_14 : decode (bn_b 40) 14 = .ok (.goto 4, 3) := by decide +kernel
theorem bd_40_17 : decode (bn_b 40) 17 = .ok (.iconst 0, 1) := by decide +kernel
theorem bd_40_18 : decode (bn_b 40) 18 = .ok (.ireturn, 1) := by decide +kernel
theorem bd_41_0 : decode (bn_b 41) 0 = .ok (.aload_n 0, 1) := by decide +kernel
theorem bd_41_1 : decode (bn_b 41) 1 = .ok (.iload_n 1, 1) := by decide +kernel
theorem bd_41_2 : decode (bn_b 41) 2 = .ok (.invokevirtual 26, 3) := by decide +kernel
theorem bd_41_5 : decode (bn_b 41) 5 = .ok (.ifCond .ne 5, 3) := by decide +kernel
theorem bd_41_8 : decode (bn_b 41) 8 = .ok (.iconst 0, 1) := by decide +kernel
theorem bd_41_9 : decode (bn_b 41) 9 = .ok (.ireturn, 1) := by decide +kernel
theorem bd_41_10 : decode (bn_b 41) 10 = .ok (.aload_n 0, 1) := by decide +kernel
theorem bd_41_11 : decode (bn_b 41) 11 = .ok (.dup, 1) := by decide +kernel
theorem bd_41_12 : decode (bn_b 41) 12 = .ok (.getfield 19, 3) := by decide +kernel
theorem bd_41_15 : decode (bn_b 41) 15 = .ok (.iconst 1, 1) := by decide +kernel
theorem bd_41_16 : decode (bn_b 41) 16 = .ok (.iadd, 1) := by decide +kernel
theorem bd_41_17 : decode (bn_b 41) 17 = .ok (.putfield 19, 3) := by decide +kernel
theorem bd_41_20 : decode (bn_b 41) 20 = .ok (.iconst 1, 1) := by decide +kernel
theorem bd_41_21 : decode (bn_b 41) 21 = .ok (.ireturn, 1) := by decide +kernel
theorem bd_42_0 : decode (bn_b 42) 0 = .ok (.aload_n 0, 1) := by decide +kernel
theorem bd_42_1 : decode (bn_b 42) 1 = .ok (.getfield 19, 3) := by decide +kernel
theorem bd_42_4 : decode (bn_b 42) 4 = .ok (.aload_n 0, 1) := by decide +kernel
theorem bd_42_5 : decode (bn_b 42) 5 = .ok (.getfield 15, 3) := by decide +kernel
theorem bd_42_8 : decode (bn_b 42) 8 = .ok (.if_icmp .ge 20, 3) := by decide +kernel
theorem bd_42_11 : decode (bn_b 42) 11 = .ok (.aload_n 0, 1) := by decide +kernel
theorem bd_42_12 : decode (bn_b 42) 12 = .ok (.getfield 9, 3) := by decide +kernel
theorem bd_42_15 : decode (bn_b 42) 15 = .ok (.aload_n 0, 1) := by decide +kernel
theorem bd_42_16 : decode (bn_b 42) 16 = .ok (.getfield 19, 3) := by decide +kernel
theorem bd_42_19 : decode (bn_b 42) 19 = .ok (.iaload, 1) := by decide +kernel
theorem bd_42_20 : decode (bn_b 42) 20 = .ok (.iload_n 1, 1) := by decide +kernel
theorem bd_42_21 : decode (bn_b 42) 21 = .ok (.if_icmp .ne 7, 3) := by decide +kernel
theorem bd_42_24 : decode (bn_b 42) 24 = .ok (.iconst 1, 1) := by decide +kernel
theorem bd_42_25 : decode (bn_b 42) 25 = .ok (.goto 4, 3) := by decide +kernel
theorem bd_42_28 : decode (bn_b 42) 28 = .ok (.iconst 0, 1) := by decide +kernel
theorem bd_42_29 : decode (bn_b 42) 29 = .ok (.ireturn, 1) := by decide +kernel
theorem bd_43_0 : decode (bn_b 43) 0 = .ok (.aload_n 0, 1) := by decide +kernel
theorem bd_43_1 : decode (bn_b 43) 1 = .ok (.invokevirtual 69, 3) := by decide +kernel
theorem bd_43_4 : decode (bn_b 43) 4 = .ok (.istore_n 3, 1) := by decide +kernel
theorem bd_43_5 : decode (bn_b 43) 5 = .ok (.iload_n 3, 1) := by decide +kernel
theorem bd_43_6 : decode (bn_b 43) 6 = .ok (.iload_n 1, 1) := by decide +kernel
theorem bd_43_7 : decode (bn_b 43) 7 = .ok (.if_icmp .lt 8, 3) := by decide +kernel
theorem bd_43_10 : decode (bn_b 43) 10 = .ok (.iload_n 3, 1) := by decide +kernel
theorem bd_43_11 : decode (bn_b 43) 11 = .ok (.iload_n 2, 1) := by decide +kernel
theorem bd_43_12 : decode (bn_b 43) 12 = .ok (.if_icmp .le 6, 3) := by decide +kernel
theorem bd_43_15 : decode (bn_b 43) 15 = .ok (.bipush (-9), 2) := by decide +kernel
theorem bd_43_17 : decode (bn_b 43) 17 = .ok (.ireturn, 1) := by decide +kernel
theorem bd_43_18 : decode (bn_b 43) 18 = .ok (.aload_n 0, 1) := by decide +kernel
theorem bd_43_19 : decode (bn_b 43) 19 = .ok (.dup, 1) := by decide +kernel
theorem bd_43_20 : decode (bn_b 43) 20 = .ok (.getfield 19, 3) := by decide +kernel
theorem bd_43_23 : decode (bn_b 43) 23 = .ok (.iconst 1, 1) := by decide +kernel
theorem bd_43_24 : decode (bn_b 43) 24 = .ok (.iadd, 1) := by decide +kernel
theorem bd_43_25 : decode (bn_b 43) 25 = .ok (.putfield 19, 3) := by decide +kernel
theorem bd_43_28 : decode (bn_b 43) 28 = .ok (.iload_n 3, 1) := by decide +kernel
theorem bd_43_29 : decode (bn_b 43) 29 = .ok (.ireturn, 1) := by decide +kernel
theorem bd_44_0 : decode (bn_b 44) 0 = .ok (.aload_n 0, 1) := by decide +kernel
theorem bd_44_1 : decode (bn_b 44) 1 = .ok (.getfield 19, 3) := by decide +kernel
theorem bd_44_4 : decode (bn_b 44) 4 = .ok (.aload_n 0, 1) := by decide +kernel
theorem bd_44_5 : decode (bn_b 44) 5 = .ok (.getfield 15, 3) := by decide +kernel
theorem bd_44_8 : decode (bn_b 44) 8 = .ok (.if_icmp .ge 31, 3) := by decide +kernel
theorem bd_44_11 : decode (bn_b 44) 11 = .ok (.aload_n 0, 1) := by decide +kernel
theorem bd_44_12 : decode (bn_b 44) 12 = .ok (.getfield 9, 3) := by decide +kernel
theorem bd_44_15 : decode (bn_b 44) 15 = .ok (.aload_n 0, 1) := by decide +kernel
theorem bd_44_16 : decode (bn_b 44) 16 = .ok (.getfield 19, 3) := by decide +kernel
theorem bd_44_19 : decode (bn_b 44) 19 = .ok (.iaload, 1) := by decide +kernel
theorem bd_44_20 : decode (bn_b 44) 20 = .ok (.bipush 48, 2) := by decide +kernel
theorem bd_44_22 : decode (bn_b 44) 22 = .ok (.if_icmp .lt 17, 3) := by decide +kernel
theorem bd_44_25 : decode (bn_b 44) 25 = .ok (.aload_n 0, 1) := by decide +kernel
theorem bd_44_26 : decode (bn_b 44) 26 = .ok (.getfield 9, 3) := by decide +kernel
theorem bd_44_29 : decode (bn_b 44) 29 = .ok (.aload_n 0, 1) := by decide +kernel
theorem bd_44_30 : decode (bn_b 44) 30 = .ok (.getfield 19, 3) := by decide +kernel
theorem bd_44_33 : decode (bn_b 44) 33 = .ok (.iaload, 1) := by decide +kernel
theorem bd_44_34 : decode (bn_b 44) 34 = .ok (.bipush 57, 2) := by decide +kernel
theorem bd_44_36 : decode (bn_b 44) 36 = .ok (.if_icmp .le 6, 3) := by decide +kernel
theorem bd_44_39 : decode (bn_b 44) 39 = .ok (.bipush (-9), 2) := by decide +kernel
theorem bd_44_41 : decode (bn_b 44) 41 = .ok (.ireturn, 1) := by decide +kernel
theorem bd_44_42 : decode (bn_b 44) 42 = .ok (.aload_n 0, 1) := by decide +kernel
theorem bd_44_43 : decode (bn_b 44) 43 = .ok (.getfield 9, 3) := by decide +kernel
theorem bd_44_46 : decode (bn_b 44) 46 = .ok (.aload_n 0, 1) := by decide +kernel
theorem bd_44_47 : decode (bn_b 44) 47 = .ok (.getfield 19, 3) := by decide +kernel
theorem bd_44_50 : decode (bn_b 44) 50 = .ok (.iaload, 1) := by decide +kernel
theorem bd_44_51 : decode (bn_b 44) 51 = .ok (.bipush 48, 2) := by decide +kernel
theorem bd_44_53 : decode (bn_b 44) 53 = .ok (.isub, 1) := by decide +kernel
theorem bd_44_54 : decode (bn_b 44) 54 = .ok (.ireturn, 1) := by decide +kernel
theorem bd_45_0 : decode (bn_b 45) 0 = .ok (.aload_n 0, 1) := by decide +kernel
theorem bd_45_1 : decode (bn_b 45) 1 = .ok (.invokespecial 3, 3) := by decide +kernel
theorem bd_45_4 : decode (bn_b 45) 4 = .ok (.aload_n 0, 1) := by decide +kernel
theorem bd_45_5 : decode (bn_b 45) 5 = .ok (.new 9, 3) := by decide +kernel
theorem bd_45_8 : decode (bn_b 45) 8 = .ok (.dup, 1) := by decide +kernel
theorem bd_45_9 : decode (bn_b 45) 9 = .ok (.invokespecial 11, 3) := by decide +kernel
theorem bd_45_12 : decode (bn_b 45) 12 = .ok (.putfield 12, 3) := by decide +kernel
theorem bd_45_15 : decode (bn_b 45) 15 = .ok (.aload_n 0, 1) := by decide +kernel
theorem bd_45_16 : decode (bn_b 45) 16 = .ok (.new 16, 3) := by decide +kernel
theorem bd_45_19 : decode (bn_b 45) 19 = .ok (.dup, 1) := by decide +kernel
theorem bd_45_20 : decode (bn_b 45) 20 = .ok (.invokespecial 18, 3) := by decide +kernel
theorem bd_45_23 : decode (bn_b 45) 23 = .ok (.putfield 19, 3) := by decide +kernel
theorem bd_45_26 : decode (bn_b 45) 26 = .ok (.aload_n 0, 1) := by decide +kernel
theorem bd_45_27 : decode (bn_b 45) 27 = .ok (.new 16, 3) := by decide +kernel
theorem bd_45_30 : decode (bn_b 45) 30 = .ok (.dup, 1) := by decide +kernel
theorem bd_45_31 : decode (bn_b 45) 31 = .ok (.invokespecial 18, 3) := by decide +kernel
theorem bd_45_34 : decode (bn_b 45) 34 = .ok (.putfield 23, 3) := by decide +kernel
theorem bd_45_37 : decode (bn_b 45) 37 = .ok (.aload_n 0, 1) := by decide +kernel
theorem bd_45_38 : decode (bn_b 45) 38 = .ok (.bipush 20, 2) := by decide +kernel
theorem bd_45_40 : decode (bn_b 45) 40 = .ok (.anewarray 16, 3) := by decide +kernel
theorem bd_45_43 : decode (bn_b 45) 43 = .ok (.putfield 26, 3) := by decide +kernel
theorem bd_45_46 : decode (bn_b 45) 46 = .ok (.aload_n 0, 1) := by decide +kernel
theorem bd_45_47 : decode (bn_b 45) 47 = .ok (.iconst 0, 1) := by decide +kernel
theorem bd_45_48 : decode (bn_b 45) 48 = .ok (.putfield 30, 3) := by decide +kernel
theorem bd_45_51 : decode (bn_b 45) 51 = .ok (.aload_n 0, 1) := by decide +kernel
theorem bd_45_52 : decode (bn_b 45) 52 = .ok (.iconst 0, 1) := by decide +kernel
theorem bd_45_53 : decode (bn_b 45) 53 = .ok (.putfield 34, 3) := by decide +kernel
theorem bd_45_56 : decode (bn_b 45) 56 = .ok (.aload_n 0, 1) := by decide +kernel
theorem bd_45_57 : decode (bn_b 45) 57 = .ok (.iconst 2, 1) := by decide +kernel
theorem bd_45_58 : decode (bn_b 45) 58 = .ok (.anewarray 16, 3) := by decide +kernel
theorem bd_45_61 : decode (bn_b 45) 61 = .ok (.putfield 37, 3) := by decide +kernel
theorem bd_45_64 : decode (bn_b 45) 64 = .ok (.aload_n 0, 1) := by decide +kernel
theorem bd_45_65 : decode (bn_b 45) 65 = .ok (.iconst 2, 1) := by decide +kernel
theorem bd_45_66 : decode (bn_b 45) 66 = .ok (.newarray .boolean, 2) := by decide +kernel
theorem bd_45_68 : decode (bn_b 45) 68 = .ok (.putfield 40, 3) := by decide +kernel
theorem bd_45_71 : decode (bn_b 45) 71 = .ok (.iconst 0, 1) := by decide +kernel
theorem bd_45_72 : decode (bn_b 45) 72 = .ok (.istore_n 1, 1) := by decide +kernel
theorem bd_45_73 : decode (bn_b 45) 73 = .ok (.iload_n 1, 1) := by decide +kernel
theorem bd_45_74 : decode (bn_b 45) 74 = .ok (.bipush 20, 2) := by decide +kernel
theorem bd_45_76 : decode (bn_b 45) 76 = .ok (.if_icmp .ge 22, 3) := by decide +kernel
theorem bd_45_79 : decode (bn_b 45) 79 = .ok (.aload_n 0, 1) := by decide +kernel
theorem bd_45_80 : decode (bn_b 45) 80 = .ok (.getfield 26, 3) := by decide +kernel
theorem bd_45_83 : decode (bn_b 45) 83 = .ok (.iload_n 1, 1) := by decide +kernel
theorem bd_45_84 : decode (bn_b 45) 84 = .ok (.new 16, 3) := by decide +kernel
theorem bd_45_87 : decode (bn_b 45) 87 = .ok (.dup, 1) := by decide +kernel
theorem bd_45_88 : decode (bn_b 45) 88 = .ok (.invokespecial 18, 3) := by decide +kernel
theorem bd_45_91 : decode (bn_b 45) 91 = .ok (.aastore, 1) := by decide +kernel
theorem bd_45_92 : decode (bn_b 45) 92 = .ok (.iinc 1 1, 3) := by decide +kernel
theorem bd_45_95 : decode (bn_b 45) 95 = .ok (.goto (-22), 3) := by decide +kernel
theorem bd_45_98 : decode (bn_b 45) 98 = .ok (.iconst 0, 1) := by decide +kernel
theorem bd_45_99 : decode (bn_b 45) 99 = .ok (.istore_n 1, 1) := by decide +kernel
theorem bd_45_100 : decode (bn_b 45) 100 = .ok (.iload_n 1, 1) := by decide +kernel
theorem bd_45_101 : decode (bn_b 45) 101 = .ok (.iconst 2, 1) := by decide +kernel
theorem bd_45_102 : decode (bn_b 45) 102 = .ok (.if_icmp .ge 22, 3) := by decide +kernel
theorem bd_45_105 : decode (bn_b 45) 105 = .ok (.aload_n 0, 1) := by decide +kernel
theorem bd_45_106 : decode (bn_b 45) 106 = .ok (.getfield 37, 3) := by decide +kernel
theorem bd_45_109 : decode (bn_b 45) 109 = .ok (.iload_n 1, 1) := by decide +kernel
theorem bd_45_110 : decode (bn_b 45) 110 = .ok (.new 16, 3) := by decide +kernel
theorem bd_45_113 : decode (bn_b 45) 113 = .ok (.dup, 1) := by decide +kernel
theorem bd_45_114 : decode (bn_b 45) 114 = .ok (.invokespecial 18, 3) := by decide +kernel
theorem bd_45_117 : decode (bn_b 45) 117 = .ok (.aastore, 1) := by decide +kernel
theorem bd_45_118 : decode (bn_b 45) 118 = .ok (.iinc 1 1, 3) := by decide +kernel
theorem bd_45_121 : decode (bn_b 45) 121 = .ok (.goto (-21), 3) := by decide +kernel
theorem bd_45_124 : decode (bn_b 45) 124 = .ok (.return_, 1) := by decide +kernel
theorem bd_46_0 : decode (bn_b 46) 0 = .ok (.iload_n 1, 1) := by decide +kernel
theorem bd_46_1 : decode (bn_b 46) 1 = .ok (.iconst 1, 1) := by decide +kernel
theorem bd_46_2 : decode (bn_b 46) 2 = .ok (.if_icmp .lt 9, 3) := by decide +kernel
theorem bd_46_5 : decode (bn_b 46) 5 = .ok (.iload_n 1, 1) := by decide +kernel
theorem bd_46_6 : decode (bn_b 46) 6 = .ok (.bipush 8, 2) := by decide +kernel
theorem bd_46_8 : decode (bn_b 46) 8 = .ok (.if_icmp .le 6, 3) := by decide +kernel
theorem bd_46_11 : decode (bn_b 46) 11 = .ok (.bipush (-2), 2) := by decide +kernel
theorem bd_46_13 : decode (bn_b 46) 13 = .ok (.ireturn, 1) := by decide +kernel
theorem bd_46_14 : decode (bn_b 46) 14 = .ok (.aload_n 0, 1) := by decide +kernel
theorem bd_46_15 : decode (bn_b 46) 15 = .ok (.getfield 12, 3) := by decide +kernel
theorem bd_46_18 : decode (bn_b 46) 18 = .ok (.getfield 44, 3) := by decide +kernel
theorem bd_46_21 : decode (bn_b 46) 21 = .ok (.iload_n 1, 1) := by decide +kernel
theorem bd_46_22 : decode (bn_b 46) 22 = .ok (.iadd, 1) := by decide +kernel
theorem bd_46_23 : decode (bn_b 46) 23 = .ok (.bipush 80, 2) := by decide +kernel
theorem bd_46_25 : decode (bn_b 46) 25 = .ok (.if_icmp .le 6, 3) := by decide +kernel
theorem bd_46_28 : decode (bn_b 46) 28 = .ok (.bipush (-4), 2) := by decide +kernel
theorem bd_46_30 : decode (bn_b 46) 30 = .ok (.ireturn, 1) := by decide +kernel
theorem bd_46_31 : decode (bn_b 46) 31 = .ok (.iload_n 1, 1) := by decide +kernel
theorem bd_46_32 : decode (bn_b 46) 32 = .ok (.iconst 1, 1) := by decide +kernel
theorem bd_46_33 : decode (bn_b 46) 33 = .ok (.isub, 1) := by decide +kernel
theorem bd_46_34 : decode (bn_b 46) 34 = .ok (.istore 4, 2) := by decide +kernel
theorem bd_46_36 : decode (bn_b 46) 36 = .ok (.iload 4, 2) := by decide +kernel
theorem bd_46_38 : decode (bn_b 46) 38 = .ok (.ifCond .lt 28, 3) := by decide +kernel
theorem bd_46_41 : decode (bn_b 46) 41 = .ok (.aload_n 0, 1) := by decide +kernel
theorem bd_46_42 : decode (bn_b 46) 42 = .ok (.getfield 12, 3) := by decide +kernel
theorem bd_46_45 : decode (bn_b 46) 45 = .ok (.lload_n 2, 1) := by decide +kernel
theorem bd_46_46 : decode (bn_b 46) 46 = .ok (.bipush 8, 2) := by decide +kernel
theorem bd_46_48 : decode (bn_b 46) 48 = .ok (.iload 4, 2) := by decide +kernel
theorem bd_46_50 : decode (bn_b 46) 50 = .ok (.imul, 1) := by decide +kernel
theorem bd_46_51 : decode (bn_b 46) 51 = .ok (.lushr, 1) := by decide +kernel
theorem bd_46_52 : decode (bn_b 46) 52 = .ok (.l2i, 1) := by decide +kernel
theorem bd_46_53 : decode (bn_b 46) 53 = .ok (.sipush 255, 3) := by decide +kernel
theorem bd_46_56 : decode (bn_b 46) 56 = .ok (.iand, 1) := by decide +kernel
theorem bd_46_57 : decode (bn_b 46) 57 = .ok (.invokevirtual 47, 3) := by decide +kernel
theorem bd_46_60 : decode (bn_b 46) 60 = .ok (.iinc 4 (-1), 3) := by decide +kernel
theorem bd_46_63 : decode (bn_b 46) 63 = .ok (.goto (-27), 3) := by decide +kernel
theorem bd_46_66 : decode (bn_b 46) 66 = .ok (.aload_n 0, 1) := by decide +kernel
theorem bd_46_67 : decode (bn_b 46) 67 = .ok (.getfield 12, 3) := by decide +kernel
theorem bd_46_70 : decode (bn_b 46) 70 = .ok (.getfield 44, 3) := by decide +kernel
theorem bd_46_73 : decode (bn_b 46) 73 = .ok (.ireturn, 1) := by decide +kernel
theorem bd_47_0 : decode (bn_b 47) 0 = .ok (.aload_n 0, 1) := by decide +kernel
theorem bd_47_1 : decode (bn_b 47) 1 = .ok (.getfield 12, 3) := by decide +kernel
theorem bd_47_4 : decode (bn_b 47) 4 = .ok (.getfield 44, 3) := by decide +kernel
theorem bd_47_7 : decode (bn_b 47) 7 = .ok (.istore_n 1, 1) := by decide +kernel
theorem bd_47_8 : decode (bn_b 47) 8 = .ok (.aload_n 0, 1) := by decide +kernel
theorem bd_47_9 : decode (bn_b 47) 9 = .ok (.getfield 12, 3) := by decide +kernel
theorem bd_47_12 : decode (bn_b 47) 12 = .ok (.iconst 0, 1) := by decide +kernel
theorem bd_47_13 : decode (bn_b 47) 13 = .ok (.putfield 44, 3) := by decide +kernel
theorem bd_47_16 : decode (bn_b 47) 16 = .ok (.iload_n 1, 1) := by decide +kernel
theorem bd_47_17 : decode (bn_b 47) 17 = .ok (.ireturn, 1) := by decide +kernel
theorem bd_48_0 : decode (bn_b 48) 0 = .ok (.aload_n 0, 1) := by decide +kernel
theorem bd_48_1 : decode (bn_b 48) 1 = .ok (.getfield 12, 3) := by decide +kernel
theorem bd_48_4 : decode (bn_b 48) 4 = .ok (.aload_n 0, 1) := by decide +kernel
theorem bd_48_5 : decode (bn_b 48) 5 = .ok (.getfield 23, 3) := by decide +kernel
theorem bd_48_8 : decode (bn_b 48) 8 = .ok (.invokevirtual 51, 3) := by decide +kernel
theorem bd_48_11 : decode (bn_b 48) 11 = .ok (.ireturn, 1) := by decide +kernel
theorem bd_49_0 : decode (bn_b 49) 0 = .ok (.aload_n 0, 1) := by decide +kernel
theorem bd_49_1 : decode (bn_b 49) 1 = .ok (.getfield 12, 3) := by decide +kernel
theorem bd_49_4 : decode (bn_b 49) 4 = .ok (.aload_n 0, 1) := by decide +kernel
theorem bd_49_5 : decode (bn_b 49) 5 = .ok (.getfield 23, 3) := by decide +kernel
theorem bd_49_8 : decode (bn_b 49) 8 = .ok (.invokevirtual 51, 3) := by decide +kernel
theorem bd_49_11 : decode (bn_b 49) 11 = .ok (.bipush (-9), 2) := by decide +kernel
theorem bd_49_13 : decode (bn_b 49) 13 = .ok (.if_icmp .eq 6, 3) := by decide +kernel
theorem bd_49_16 : decode (bn_b 49) 16 = .ok (.bipush (-3), 2) := by decide +kernel
theorem bd_49_18 : decode (bn_b 49) 18 = .ok (.ireturn, 1) := by decide +kernel
theorem bd_49_19 : decode (bn_b 49) 19 = .ok (.aload_n 0, 1) := by decide +kernel
theorem bd_49_20 : decode (bn_b 49) 20 = .ok (.getfield 23, 3) := by decide +kernel
theorem bd_49_23 : decode (bn_b 49) 23 = .ok (.aload_n 0, 1) := by decide +kernel
theorem bd_49_24 : decode (bn_b 49) 24 = .ok (.getfield 19, 3) := by decide +kernel
theorem bd_49_27 : decode (bn_b 49) 27 = .ok (.getfield 55, 3) := by decide +kernel
theorem bd_49_30 : decode (bn_b 49) 30 = .ok (.putfield 55, 3) := by decide +kernel
theorem bd_49_33 : decode (bn_b 49) 33 = .ok (.aload_n 0, 1) := by decide +kernel
theorem bd_49_34 : decode (bn_b 49) 34 = .ok (.getfield 19, 3) := by decide +kernel
theorem bd_49_37 : decode (bn_b 49) 37 = .ok (.aload_n 0, 1) := by decide +kernel
theorem bd_49_38 : decode (bn_b 49) 38 = .ok (.getfield 23, 3) := by decide +kernel
theorem bd_49_41 : decode (bn_b 49) 41 = .ok (.invokevirtual 59, 3) := by decide +kernel
theorem bd_49_44 : decode (bn_b 49) 44 = .ok (.aload_n 0, 1) := by decide +kernel
theorem bd_49_45 : decode (bn_b 49) 45 = .ok (.invokevirtual 63, 3) := by decide +kernel
theorem bd_49_48 : decode (bn_b 49) 48 = .ok (.iconst 0, 1) := by decide +kernel
theorem bd_49_49 : decode (bn_b 49) 49 = .ok (.istore_n 1, 1) := by decide +kernel
theorem bd_49_50 : decode (bn_b 49) 50 = .ok (.iload_n 1, 1) := by decide +kernel
theorem bd_49_51 : decode (bn_b 49) 51 = .ok (.iconst 2, 1) := by decide +kernel
theorem bd_49_52 : decode (bn_b 49) 52 = .ok (.if_icmp .ge 16, 3) := by decide +kernel
theorem bd_49_55 : decode (bn_b 49) 55 = .ok (.aload_n 0, 1) := by decide +kernel
theorem bd_49_56 : decode (bn_b 49) 56 = .ok (.getfield 40, 3) := by decide +kernel
theorem bd_49_59 : decode (bn_b 49) 59 = .ok (.iload_n 1, 1) := by decide +kernel
theorem bd_49_60 : decode (bn_b 49) 60 = .ok (.iconst 0, 1) := by decide +kernel
theorem bd_49_61 : decode (bn_b 49) 61 = .ok (.bastore, 1) := by decide +kernel
theorem bd_49_62 : decode (bn_b 49) 62 = .ok (.iinc 1 1, 3) := by decide +kernel
theorem bd_49_65 : decode (bn_b 49) 65 = .ok (.goto (-15), 3) := by decide +kernel
theorem bd_49_68 : decode (bn_b 49) 68 = .ok (.bipush 100, 2) := by decide +kernel
theorem bd_49_70 : decode (bn_b 49) 70 = .ok (.aload_n 0, 1) := by decide +kernel
theorem bd_49_71 : decode (bn_b 49) 71 = .ok (.getfield 19, 3) := by decide +kernel
theorem bd_49_74 : decode (bn_b 49) 74 = .ok (.getfield 66, 3) := by decide +kernel
theorem bd_49_77 : decode (bn_b 49) 77 = .ok (.imul, 1) := by decide +kernel
theorem bd_49_78 : decode (bn_b 49) 78 = .ok (.aload_n 0, 1) := by decide +kernel
theorem bd_49_79 : decode (bn_b 49) 79 = .ok (.getfield 19, 3) := by decide +kernel
theorem bd_49_82 : decode (bn_b 49) 82 = .ok (.getfield 69, 3) := by decide +kernel
theorem bd_49_85 : decode (bn_b 49) 85 = .ok (.iadd, 1) := by decide +kernel
theorem bd_49_86 : decode (bn_b 49) 86 = .ok (.ireturn, 1) := by decide +kernel
theorem bd_50_0 : decode (bn_b 50) 0 = .ok (.aload_n 0, 1) := by decide +kernel
theorem bd_50_1 : decode (bn_b 50) 1 = .ok (.getfield 19, 3) := by decide +kernel
theorem bd_50_4 : decode (bn_b 50) 4 = .ok (.iload_n 1, 1) := by decide +kernel
theorem bd_50_5 : decode (bn_b 50) 5 = .ok (.invokevirtual 72, 3) := by decide +kernel
theorem bd_50_8 : decode (bn_b 50) 8 = .ok (.ifCond .ne 5, 3) := by decide +kernel
theorem bd_50_11 : decode (bn_b 50) 11 = .ok (.iconst (-1), 1) := by decide +kernel
theorem bd_50_12 : decode (bn_b 50) 12 = .ok (.ireturn, 1) := by decide +kernel
theorem bd_50_13 : decode (bn_b 50) 13 = .ok (.iload_n 2, 1) := by decide +kernel
theorem bd_50_14 : decode (bn_b 50) 14 = .ok (.tableswitch 98 0 4 #[34, 44, 61, 79, 88], 34) := by decide +kernel
theorem bd_50_48 : decode (bn_b 50) 48 = .ok (.aload_n 0, 1) := by decide +kernel
theorem bd_50_49 : decode (bn_b 50) 49 = .ok (.getfield 19, 3) := by decide +kernel
theorem bd_50_52 : decode (bn_b 50) 52 = .ok (.getfield 76, 3) := by decide +kernel
theorem bd_50_55 : decode (bn_b 50) 55 = .ok (.iload_n 1, 1) := by decide +kernel
theorem bd_50_56 : decode (bn_b 50) 56 = .ok (.iaload, 1) := by decide +kernel
theorem bd_50_57 : decode (bn_b 50) 57 = .ok (.ireturn, 1) := by decide +kernel
theorem bd_50_58 : decode (bn_b 50) 58 = .ok (.aload_n 0, 1) := by decide +kernel
theorem bd_50_59 : decode (bn_b 50) 59 = .ok (.getfield 19, 3) := by decide +kernel
theorem bd_50_62 : decode (bn_b 50) 62 = .ok (.iload_n 1, 1) := by decide +kernel
theorem bd_50_63 : decode (bn_b 50) 63 = .ok (.invokevirtual 80, 3) := by decide +kernel
theorem bd_50_66 : decode (bn_b 50) 66 = .ok (.ifCond .eq 7, 3) := by decide +kernel
theorem bd_50_69 : decode (bn_b 50) 69 = .ok (.iconst 1, 1) := by decide +kernel
theorem bd_50_70 : decode (bn_b 50) 70 = .ok (.goto 4, 3) := by decide +kernel
theorem bd_50_73 : decode (bn_b 50) 73 = .ok (.iconst 0, 1) := by decide +kernel
theorem bd_50_74 : decode (bn_b 50) 74 = .ok (.ireturn, 1) := by decide +kernel
theorem bd_50_75 : decode (bn_b 50) 75 = .ok (.aload_n 0, 1) := by decide +kernel
theorem bd_50_76 : decode (bn_b 50) 76 = .ok (.getfield 19, 3) := by decide +kernel
theorem bd_50_79 : decode (bn_b 50) 79 = .ok (.getfield 83, 3) := by decide +kernel
theorem bd_50_82 : decode (bn_b 50) 82 = .ok (.iload_n 1, 1) := by decide +kernel
theorem bd_50_83 : decode (bn_b 50) 83 = .ok (.baload, 1) := by decide +kernel
theorem bd_50_84 : decode (bn_b 50) 84 = .ok (.ifCond .eq 7, 3) := by decide +kernel
theorem bd_50_87 : decode (bn_b 50) 87 = .ok (.iconst 1, 1) := by decide +kernel
theorem bd_50_88 : decode (bn_b 50) 88 = .ok (.goto 4, 3) := by decide +kernel
theorem bd_50_91 : decode (bn_b 50) 91 = .ok (.iconst 0, 1) := by decide +kernel
theorem bd_50_92 : decode (bn_b 50) 92 = .ok (.ireturn, 1) := by decide +kernel
theorem bd_50_93 : decode (bn_b 50) 93 = .ok (.aload_n 0, 1) := by decide +kernel
theorem bd_50_94 : decode (bn_b 50) 94 = .ok (.getfield 19, 3) := by decide +kernel
theorem bd_50_97 : decode (bn_b 50) 97 = .ok (.iload_n 1, 1) := by decide +kernel
theorem bd_50_98 : decode (bn_b 50) 98 = .ok (.invokevirtual 86, 3) := by decide +kernel
theorem bd_50_101 : decode (bn_b 50) 101 = .ok (.ireturn, 1) := by decide +kernel
theorem bd_50_102 : decode (bn_b 50) 102 = .ok (.aload_n 0, 1) := by decide +kernel
theorem bd_50_103 : decode (bn_b 50) 103 = .ok (.getfield 19, 3) := by decide +kernel
theorem bd_50_106 : decode (bn_b 50) 106 = .ok (.getfield 90, 3) := by decide +kernel
theorem bd_50_109 : decode (bn_b 50) 109 = .ok (.iload_n 1, 1) := by decide +kernel
theorem bd_50_110 : decode (bn_b 50) 110 = .ok (.iaload, 1) := by decide +kernel
theorem bd_50_111 : decode (bn_b 50) 111 = .ok (.ireturn, 1) := by decide +kernel
theorem bd_50_112 : decode (bn_b 50) 112 = .ok (.bipush (-2), 2) := by decide +kernel
theorem bd_50_114 : decode (bn_b 50) 114 = .ok (.ireturn, 1) := by decide +kernel
theorem bd_51_0 : decode (bn_b 51) 0 = .ok (.aload_n 0, 1) := by decide +kernel
theorem bd_51_1 : decode (bn_b 51) 1 = .ok (.getfield 19, 3) := by decide +kernel
theorem bd_51_4 : decode (bn_b 51) 4 = .ok (.iload_n 1, 1) := by decide +kernel
theorem bd_51_5 : decode (bn_b 51) 5 = .ok (.invokevirtual 93, 3) := by decide +kernel
theorem bd_51_8 : decode (bn_b 51) 8 = .ok (.ifCond .ne 5, 3) := by decide +kernel
theorem bd_51_11 : decode (bn_b 51) 11 = .ok (.iconst (-1), 1) := by decide +kernel
theorem bd_51_12 : decode (bn_b 51) 12 = .ok (.ireturn, 1) := by decide +kernel
theorem bd_51_13 : decode (bn_b 51) 13 = .ok (.iload_n 2, 1) := by decide +kernel
theorem bd_51_14 : decode (bn_b 51) 14 = .ok (.tableswitch 105 0 5 #[38, 48, 58, 68, 85, 95], 38) := by decide +kernel
theorem bd_51_52 : decode (bn_b 51) 52 = .ok (.aload_n 0, 1) := by decide +kernel
theorem bd_51_53 : decode (bn_b 51) 53 = .ok (.getfield 19, 3) := by decide +kernel
theorem bd_51_56 : decode (bn_b 51) 56 = .ok (.getfield 96, 3) := by decide +kernel
theorem bd_51_59 : decode (bn_b 51) 59 = .ok (.iload_n 1, 1) := by decide +kernel
theorem bd_51_60 : decode (bn_b 51) 60 = .ok (.iaload, 1) := by decide +kernel
theorem bd_51_61 : decode (bn_b 51) 61 = .ok (.ireturn, 1) := by decide +kernel
theorem bd_51_62 : decode (bn_b 51) 62 = .ok (.aload_n 0, 1) := by decide +kernel
theorem bd_51_63 : decode (bn_b 51) 63 = .ok (.getfield 19, 3) := by decide +kernel
theorem bd_51_66 : decode (bn_b 51) 66 = .ok (.getfield 99, 3) := by decide +kernel
theorem bd_51_69 : decode (bn_b 51) 69 = .ok (.iload_n 1, 1) := by decide +kernel
theorem bd_51_70 : decode (bn_b 51) 70 = .ok (.iaload, 1) := by decide +kernel
theorem bd_51_71 : decode (bn_b 51) 71 = .ok (.ireturn, 1) := by decide +kernel
theorem bd_51_72 : decode (bn_b 51) 72 = .ok (.aload_n 0, 1) := by decide +kernel
theorem bd_51_73 : decode (bn_b 51) 73 = .ok (.getfield 19, 3) := by decide +kernel
theorem bd_51_76 : decode (bn_b 51) 76 = .ok (.getfield 102, 3) := by decide +kernel
theorem bd_51_79 : decode (bn_b 51) 79 = .ok (.iload_n 1, 1) := by decide +kernel
theorem bd_51_80 : decode (bn_b 51) 80 = .ok (.iaload, 1) := by decide +kernel
theorem bd_51_81 : decode (bn_b 51) 81 = .ok (.ireturn, 1) := by decide +kernel
theorem bd_51_82 : decode (bn_b 51) 82 = .ok (.aload_n 0, 1) := by decide +kernel
theorem bd_51_83 : decode (bn_b 51) 83 = .ok (.getfield 19, 3) := by decide +kernel
theorem bd_51_86 : decode (bn_b 51) 86 = .ok (.iload_n 1, 1) := by decide +kernel
theorem bd_51_87 : decode (bn_b 51) 87 = .ok (.invokevirtual 105, 3) := by decide +kernel
theorem bd_51_90 : decode (bn_b 51) 90 = .ok (.ifCond .eq 7, 3) := by decide +kernel
theorem bd_51_93 : decode (bn_b 51) 93 = .ok (.iconst 1, 1) := by decide +kernel
theorem bd_51_94 : decode (bn_b 51) 94 = .ok (.goto 4, 3) := by decide +kernel
theorem bd_51_97 : decode (bn_b 51) 97 = .ok (.iconst 0, 1) := by decide +kernel
theorem bd_51_98 : decode (bn_b 51) 98 = .ok (.ireturn, 1) := by decide +kernel
theorem bd_51_99 : decode (bn_b 51) 99 = .ok (.aload_n 0, 1) := by decide +kernel
theorem bd_51_100 : decode (bn_b 51) 100 = .ok (.getfield 19, 3) := by decide +kernel
theorem bd_51_103 : decode (bn_b 51) 103 = .ok (.getfield 108, 3) := by decide +kernel
theorem bd_51_106 : decode (bn_b 51) 106 = .ok (.iload_n 1, 1) := by decide +kernel
theorem bd_51_107 : decode (bn_b 51) 107 = .ok (.iaload, 1) := by decide +kernel
theorem bd_51_108 : decode (bn_b 51) 108 = .ok (.ireturn, 1) := by decide +kernel
theorem bd_51_109 : decode (bn_b 51) 109 = .ok (.aload_n 0, 1) := by decide +kernel
theorem bd_51_110 : decode (bn_b 51) 110 = .ok (.getfield 19, 3) := by decide +kernel
theorem bd_51_113 : decode (bn_b 51) 113 = .ok (.getfield 111, 3) := by decide +kernel
theorem bd_51_116 : decode (bn_b 51) 116 = .ok (.iload_n 1, 1) := by decide +kernel
theorem bd_51_117 : decode (bn_b 51) 117 = .ok (.iaload, 1) := by decide +kernel
theorem bd_51_118 : decode (bn_b 51) 118 = .ok (.ireturn, 1) := by decide +kernel
theorem bd_51_119 : decode (bn_b 51) 119 = .ok (.bipush (-2), 2) := by decide +kernel
theorem bd_51_121 : decode (bn_b 51) 121 = .ok (.ireturn, 1) := by decide +kernel
theorem bd_52_0 : decode (bn_b 52) 0 = .ok (.aload_n 0, 1) := by decide +kernel
theorem bd_52_1 : decode (bn_b 52) 1 = .ok (.getfield 19, 3) := by decide +kernel
theorem bd_52_4 : decode (bn_b 52) 4 = .ok (.iload_n 1, 1) := by decide +kernel
theorem bd_52_5 : decode (bn_b 52) 5 = .ok (.invokevirtual 72, 3) := by decide +kernel
theorem bd_52_8 : decode (bn_b 52) 8 = .ok (.ifCond .eq 14, 3) := by decide +kernel
theorem bd_52_11 : decode (bn_b 52) 11 = .ok (.aload_n 0, 1) := by decide +kernel
theorem bd_52_12 : decode (bn_b 52) 12 = .ok (.getfield 19, 3) := by decide +kernel
theorem bd_52_15 : decode (bn_b 52) 15 = .ok (.iload_n 2, 1) := by decide +kernel
theorem bd_52_16 : decode (bn_b 52) 16 = .ok (.invokevirtual 93, 3) := by decide +kernel
theorem bd_52_19 : decode (bn_b 52) 19 = .ok (.ifCond .ne 5, 3) := by decide +kernel
theorem bd_52_22 : decode (bn_b 52) 22 = .ok (.iconst (-1), 1) := by decide +kernel
theorem bd_52_23 : decode (bn_b 52) 23 = .ok (.ireturn, 1) := by decide +kernel
theorem bd_52_24 : decode (bn_b 52) 24 = .ok (.aload_n 0, 1) := by decide +kernel
theorem bd_52_25 : decode (bn_b 52) 25 = .ok (.getfield 19, 3) := by decide +kernel
theorem bd_52_28 : decode (bn_b 52) 28 = .ok (.iload_n 1, 1) := by decide +kernel
theorem bd_52_29 : decode (bn_b 52) 29 = .ok (.iload_n 2, 1) := by decide +kernel
theorem bd_52_30 : decode (bn_b 52) 30 = .ok (.invokevirtual 114, 3) := by decide +kernel
theorem bd_52_33 : decode (bn_b 52) 33 = .ok (.ifCond .eq 7, 3) := by decide +kernel
theorem bd_52_36 : decode (bn_b 52) 36 = .ok (.iconst 1, 1) := by decide +kernel
theorem bd_52_37 : decode (bn_b 52) 37 = .ok (.goto 4, 3) := by decide +kernel
theorem bd_52_40 : decode (bn_b 52) 40 = .ok (.iconst 0, 1) := by decide +kernel
theorem bd_52_41 : decode (bn_b 52) 41 = .ok (.ireturn, 1) := by decide +kernel
theorem bd_53_0 : decode (bn_b 53) 0 = .ok (.aload_n 0, 1) := by decide +kernel
theorem bd_53_1 : decode (bn_b 53) 1 = .ok (.getfield 19, 3) := by decide +kernel
theorem bd_53_4 : decode (bn_b 53) 4 = .ok (.iload_n 1, 1) := by decide +kernel
theorem bd_53_5 : decode (bn_b 53) 5 = .ok (.invokevirtual 72, 3) := by decide +kernel
theorem bd_53_8 : decode (bn_b 53) 8 = .ok (.ifCond .eq 14, 3) := by decide +kernel
theorem bd_53_11 : decode (bn_b 53) 11 = .ok (.aload_n 0, 1) := by decide +kernel
theorem bd_53_12 : decode (bn_b 53) 12 = .ok (.getfield 19, 3) := by decide +kernel
theorem bd_53_15 : decode (bn_b 53) 15 = .ok (.iload_n 2, 1) := by decide +kernel
theorem bd_53_16 : decode (bn_b 53) 16 = .ok (.invokevirtual 93, 3) := by decide +kernel
theorem bd_53_19 : decode (bn_b 53) 19 = .ok (.ifCond .ne 5, 3) := by decide +kernel
theorem bd_53_22 : decode (bn_b 53) 22 = .ok (.iconst (-1), 1) := by decide +kernel
theorem bd_53_23 : decode (bn_b 53) 23 = .ok (.ireturn, 1) := by decide +kernel
theorem bd_53_24 : decode (bn_b 53) 24 = .ok (.aload_n 0, 1) := by decide +kernel
theorem bd_53_25 : decode (bn_b 53) 25 = .ok (.getfield 19, 3) := by decide +kernel
theorem bd_53_28 : decode (bn_b 53) 28 = .ok (.iload_n 1, 1) := by decide +kernel
theorem bd_53_29 : decode (bn_b 53) 29 = .ok (.iload_n 2, 1) := by decide +kernel
theorem bd_53_30 : decode (bn_b 53) 30 = .ok (.invokevirtual 114, 3) := by decide +kernel
theorem bd_53_33 : decode (bn_b 53) 33 = .ok (.ifCond .ne 6, 3) := by decide +kernel
theorem bd_53_36 : decode (bn_b 53) 36 = .ok (.bipush (-3), 2) := by decide +kernel
theorem bd_53_38 : decode (bn_b 53) 38 = .ok (.ireturn, 1) := by decide +kernel
theorem bd_53_39 : decode (bn_b 53) 39 = .ok (.aload_n 0, 1) := by decide +kernel
theorem bd_53_40 : decode (bn_b 53) 40 = .ok (.invokevirtual 118, 3) := by decide +kernel
theorem bd_53_43 : decode (bn_b 53) 43 = .ok (.aload_n 0, 1) := by decide +kernel
theorem bd_53_44 : decode (bn_b 53) 44 = .ok (.getfield 19, 3) := by decide +kernel
theorem bd_53_47 : decode (bn_b 53) 47 = .ok (.iload_n 1, 1) := by decide +kernel
theorem bd_53_48 : decode (bn_b 53) 48 = .ok (.iload_n 2, 1) := by decide +kernel
theorem bd_53_49 : decode (bn_b 53) 49 = .ok (.invokevirtual 121, 3) := by decide +kernel
theorem bd_53_52 : decode (bn_b 53) 52 = .ok (.aload_n 0, 1) := by decide +kernel
theorem bd_53_53 : decode (bn_b 53) 53 = .ok (.getfield 19, 3) := by decide +kernel
theorem bd_53_56 : decode (bn_b 53) 56 = .ok (.getfield 96, 3) := by decide +kernel
theorem bd_53_59 : decode (bn_b 53) 59 = .ok (.iload_n 2, 1) := by decide +kernel
theorem bd_53_60 : decode (bn_b 53) 60 = .ok (.iaload, 1) := by decide +kernel
theorem bd_53_61 : decode (bn_b 53) 61 = .ok (.ireturn, 1) := by decide +kernel
theorem bd_54_0 : decode (bn_b 54) 0 = .ok (.aload_n 0, 1) := by decide +kernel
theorem bd_54_1 : decode (bn_b 54) 1 = .ok (.getfield 19, 3) := by decide +kernel
theorem bd_54_4 : decode (bn_b 54) 4 = .ok (.iload_n 1, 1) := by decide +kernel
theorem bd_54_5 : decode (bn_b 54) 5 = .ok (.invokevirtual 93, 3) := by decide +kernel
theorem bd_54_8 : decode (bn_b 54) 8 = .ok (.ifCond .eq 20, 3) := by decide +kernel
theorem bd_54_11 : decode (bn_b 54) 11 = .ok (.iload_n 2, 1) := by decide +kernel
theorem bd_54_12 : decode (bn_b 54) 12 = .ok (.bipush 10, 2) := by decide +kernel
theorem bd_54_14 : decode (bn_b 54) 14 = .ok (.if_icmp .eq 16, 3) := by decide +kernel
theorem bd_54_17 : decode (bn_b 54) 17 = .ok (.aload_n 0, 1) := by decide +kernel
theorem bd_54_18 : decode (bn_b 54) 18 = .ok (.getfield 19, 3) := by decide +kernel
theorem bd_54_21 : decode (bn_b 54) 21 = .ok (.iload_n 2, 1) := by decide +kernel
theorem bd_54_22 : decode (bn_b 54) 22 = .ok (.invokevirtual 72, 3) := by decide +kernel
theorem bd_54_25 : decode (bn_b 54) 25 = .ok (.ifCond .ne 5, 3) := by decide +kernel
theorem bd_54_28 : decode (bn_b 54) 28 = .ok (.iconst (-1), 1) := by decide +kernel
theorem bd_54_29 : decode (bn_b 54) 29 = .ok (.ireturn, 1) := by decide +kernel
theorem bd_54_30 : decode (bn_b 54) 30 = .ok (.aload_n 0, 1) := by decide +kernel
theorem bd_54_31 : decode (bn_b 54) 31 = .ok (.getfield 19, 3) := by decide +kernel
theorem bd_54_34 : decode (bn_b 54) 34 = .ok (.getfield 99, 3) := by decide +kernel
theorem bd_54_37 : decode (bn_b 54) 37 = .ok (.iload_n 1, 1) := by decide +kernel
theorem bd_54_38 : decode (bn_b 54) 38 = .ok (.iaload, 1) := by decide +kernel
theorem bd_54_39 : decode (bn_b 54) 39 = .ok (.istore_n 3, 1) := by decide +kernel
theorem bd_54_40 : decode (bn_b 54) 40 = .ok (.iload_n 3, 1) := by decide +kernel
theorem bd_54_41 : decode (bn_b 54) 41 = .ok (.bipush 20, 2) := by decide +kernel
theorem bd_54_43 : decode (bn_b 54) 43 = .ok (.if_icmp .eq 25, 3) := by decide +kernel
theorem bd_54_46 : decode (bn_b 54) 46 = .ok (.iload_n 3, 1) := by decide +kernel
theorem bd_54_47 : decode (bn_b 54) 47 = .ok (.iload_n 2, 1) := by decide +kernel
theorem bd_54_48 : decode (bn_b 54) 48 = .ok (.if_icmp .eq 20, 3) := by decide +kernel
theorem bd_54_51 : decode (bn_b 54) 51 = .ok (.iload_n 2, 1) := by decide +kernel
theorem bd_54_52 : decode (bn_b 54) 52 = .ok (.bipush 10, 2) := by decide +kernel
theorem bd_54_54 : decode (bn_b 54) 54 = .ok (.if_icmp .eq 17, 3) := by decide +kernel
theorem bd_54_57 : decode (bn_b 54) 57 = .ok (.aload_n 0, 1) := by decide +kernel
theorem bd_54_58 : decode (bn_b 54) 58 = .ok (.getfield 19, 3) := by decide +kernel
theorem bd_54_61 : decode (bn_b 54) 61 = .ok (.iload_n 2, 1) := by decide +kernel
theorem bd_54_62 : decode (bn_b 54) 62 = .ok (.invokevirtual 80, 3) := by decide +kernel
theorem bd_54_65 : decode (bn_b 54) 65 = .ok (.ifCond .ne 6, 3) := by decide +kernel
theorem bd_54_68 : decode (bn_b 54) 68 = .ok (.bipush (-3), 2) := by decide +kernel
theorem bd_54_70 : decode (bn_b 54) 70 = .ok (.ireturn, 1) := by decide +kernel
theorem bd_54_71 : decode (bn_b 54) 71 = .ok (.aload_n 0, 1) := by decide +kernel
theorem bd_54_72 : decode (bn_b 54) 72 = .ok (.invokevirtual 118, 3) := by decide +kernel
theorem bd_54_75 : decode (bn_b 54) 75 = .ok (.aload_n 0, 1) := by decide +kernel
theorem bd_54_76 : decode (bn_b 54) 76 = .ok (.getfield 19, 3) := by decide +kernel
theorem bd_54_79 : decode (bn_b 54) 79 = .ok (.getfield 99, 3) := by decide +kernel
theorem bd_54_82 : decode (bn_b 54) 82 = .ok (.iload_n 1, 1) := by decide +kernel
theorem bd_54_83 : decode (bn_b 54) 83 = .ok (.iload_n 2, 1) := by decide +kernel
theorem bd_54_84 : decode (bn_b 54) 84 = .ok (.iastore, 1) := by decide +kernel
theorem bd_54_85 : decode (bn_b 54) 85 = .ok (.iload_n 3, 1) := by decide +kernel
theorem bd_54_86 : decode (bn_b 54) 86 = .ok (.ireturn, 1) := by decide +kernel
theorem bd_55_0 : decode (bn_b 55) 0 = .ok (.aload_n 0, 1) := by decide +kernel
theorem bd_55_1 : decode (bn_b 55) 1 = .ok (.getfield 19, 3) := by decide +kernel
theorem bd_55_4 : decode (bn_b 55) 4 = .ok (.iload_n 1, 1) := by decide +kernel
theorem bd_55_5 : decode (bn_b 55) 5 = .ok (.invokevirtual 93, 3) := by decide +kernel
theorem bd_55_8 : decode (bn_b 55) 8 = .ok (.ifCond .ne 5, 3) := by decide +kernel
theorem bd_55_11 : decode (bn_b 55) 11 = .ok (.iconst (-1), 1) := by decide +kernel
theorem bd_55_12 : decode (bn_b 55) 12 = .ok (.ireturn, 1) := by decide +kernel
theorem bd_55_13 : decode (bn_b 55) 13 = .ok (.aload_n 0, 1) := by decide +kernel
theorem bd_55_14 : decode (bn_b 55) 14 = .ok (.getfield 19, 3) := by decide +kernel
theorem bd_55_17 : decode (bn_b 55) 17 = .ok (.getfield 99, 3) := by decide +kernel
theorem bd_55_20 : decode (bn_b 55) 20 = .ok (.iload_n 1, 1) := by decide +kernel
theorem bd_55_21 : decode (bn_b 55) 21 = .ok (.iaload, 1) := by decide +kernel
theorem bd_55_22 : decode (bn_b 55) 22 = .ok (.bipush 20, 2) := by decide +kernel
theorem bd_55_24 : decode (bn_b 55) 24 = .ok (.if_icmp .eq 18, 3) := by decide +kernel
theorem bd_55_27 : decode (bn_b 55) 27 = .ok (.aload_n 0, 1) := by decide +kernel
theorem bd_55_28 : decode (bn_b 55) 28 = .ok (.getfield 19, 3) := by decide +kernel
theorem bd_55_31 : decode (bn_b 55) 31 = .ok (.getfield 96, 3) := by decide +kernel
theorem bd_55_34 : decode (bn_b 55) 34 = .ok (.iload_n 1, 1) := by decide +kernel
theorem bd_55_35 : decode (bn_b 55) 35 = .ok (.iaload, 1) := by decide +kernel
theorem bd_55_36 : decode (bn_b 55) 36 = .ok (.invokestatic 125, 3) := by decide +kernel
theorem bd_55_39 : decode (bn_b 55) 39 = .ok (.ifCond .ne 6, 3) := by decide +kernel
theorem bd_55_42 : decode (bn_b 55) 42 = .ok (.bipush (-3), 2) := by decide +kernel
theorem bd_55_44 : decode (bn_b 55) 44 = .ok (.ireturn, 1) := by decide +kernel
theorem bd_55_45 : decode (bn_b 55) 45 = .ok (.aload_n 0, 1) := by decide +kernel
theorem bd_55_46 : decode (bn_b 55) 46 = .ok (.invokevirtual 118, 3) := by decide +kernel
theorem bd_55_49 : decode (bn_b 55) 49 = .ok (.aload_n 0, 1) := by decide +kernel
theorem bd_55_50 : decode (bn_b 55) 50 = .ok (.getfield 19, 3) := by decide +kernel
theorem bd_55_53 : decode (bn_b 55) 53 = .ok (.getfield 96, 3) := by decide +kernel
theorem bd_55_56 : decode (bn_b 55) 56 = .ok (.iload_n 1, 1) := by decide +kernel
theorem bd_55_57 : decode (bn_b 55) 57 = .ok (.aload_n 0, 1) := by decide +kernel
theorem bd_55_58 : decode (bn_b 55) 58 = .ok (.getfield 19, 3) := by decide +kernel
theorem bd_55_61 : decode (bn_b 55) 61 = .ok (.getfield 96, 3) := by decide +kernel
theorem bd_55_64 : decode (bn_b 55) 64 = .ok (.iload_n 1, 1) := by decide +kernel
theorem bd_55_65 : decode (bn_b 55) 65 = .ok (.iaload, 1) := by decide +kernel
theorem bd_55_66 : decode (bn_b 55) 66 = .ok (.invokestatic 128, 3) := by decide +kernel
theorem bd_55_69 : decode (bn_b 55) 69 = .ok (.iastore, 1) := by decide +kernel
theorem bd_55_70 : decode (bn_b 55) 70 = .ok (.aload_n 0, 1) := by decide +kernel
theorem bd_55_71 : decode (bn_b 55) 71 = .ok (.getfield 19, 3) := by decide +kernel
theorem bd_55_74 : decode (bn_b 55) 74 = .ok (.getfield 96, 3) := by decide +kernel
theorem bd_55_77 : decode (bn_b 55) 77 = .ok (.iload_n 1, 1) := by decide +kernel
theorem bd_55_78 : decode (bn_b 55) 78 = .ok (.iaload, 1) := by decide +kernel
theorem bd_55_79 : decode (bn_b 55) 79 = .ok (.ireturn, 1) := by decide +kernel
theorem bd_56_0 : decode (bn_b 56) 0 = .ok (.aload_n 0, 1) := by decide +kernel
theorem bd_56_1 : decode (bn_b 56) 1 = .ok (.invokevirtual 118, 3) := by decide +kernel
theorem bd_56_4 : decode (bn_b 56) 4 = .ok (.aload_n 0, 1) := by decide +kernel
theorem bd_56_5 : decode (bn_b 56) 5 = .ok (.getfield 19, 3) := by decide +kernel
theorem bd_56_8 : decode (bn_b 56) 8 = .ok (.invokevirtual 131, 3) := by decide +kernel
theorem bd_56_11 : decode (bn_b 56) 11 = .ok (.ireturn, 1) := by decide +kernel
theorem bd_57_0 : decode (bn_b 57) 0 = .ok (.aload_n 0, 1) := by decide +kernel
theorem bd_57_1 : decode (bn_b 57) 1 = .ok (.getfield 19, 3) := by decide +kernel
theorem bd_57_4 : decode (bn_b 57) 4 = .ok (.invokevirtual 135, 3) := by decide +kernel
theorem bd_57_7 : decode (bn_b 57) 7 = .ok (.istore_n 1, 1) := by decide +kernel
theorem bd_57_8 : decode (bn_b 57) 8 = .ok (.iload_n 1, 1) := by decide +kernel
theorem bd_57_9 : decode (bn_b 57) 9 = .ok (.ifCond .ne 6, 3) := by decide +kernel
theorem bd_57_12 : decode (bn_b 57) 12 = .ok (.bipush (-9), 2) := by decide +kernel
theorem bd_57_14 : decode (bn_b 57) 14 = .ok (.ireturn, 1) := by decide +kernel
theorem bd_57_15 : decode (bn_b 57) 15 = .ok (.aload_n 0, 1) := by decide +kernel
theorem bd_57_16 : decode (bn_b 57) 16 = .ok (.invokevirtual 118, 3) := by decide +kernel
theorem bd_57_19 : decode (bn_b 57) 19 = .ok (.aload_n 0, 1) := by decide +kernel
theorem bd_57_20 : decode (bn_b 57) 20 = .ok (.getfield 19, 3) := by decide +kernel
theorem bd_57_23 : decode (bn_b 57) 23 = .ok (.aload_n 0, 1) := by decide +kernel
theorem bd_57_24 : decode (bn_b 57) 24 = .ok (.getfield 19, 3) := by decide +kernel
theorem bd_57_27 : decode (bn_b 57) 27 = .ok (.getfield 55, 3) := by decide +kernel
theorem bd_57_30 : decode (bn_b 57) 30 = .ok (.ldc2_w 138, 3) := by decide +kernel
theorem bd_57_33 : decode (bn_b 57) 33 = .ok (.lmul, 1) := by decide +kernel
theorem bd_57_34 : decode (bn_b 57) 34 = .ok (.ldc2_w 140, 3) := by decide +kernel
theorem bd_57_37 : decode (bn_b 57) 37 = .ok (.ladd, 1) := by decide +kernel
theorem bd_57_38 : decode (bn_b 57) 38 = .ok (.putfield 55, 3) := by decide +kernel
theorem bd_57_41 : decode (bn_b 57) 41 = .ok (.aload_n 0, 1) := by decide +kernel
theorem bd_57_42 : decode (bn_b 57) 42 = .ok (.getfield 19, 3) := by decide +kernel
theorem bd_57_45 : decode (bn_b 57) 45 = .ok (.getfield 55, 3) := by decide +kernel
theorem bd_57_48 : decode (bn_b 57) 48 = .ok (.bipush 33, 2) := by decide +kernel
theorem bd_57_50 : decode (bn_b 57) 50 = .ok (.lushr, 1) := by decide +kernel
theorem bd_57_51 : decode (bn_b 57) 51 = .ok (.l2i, 1) := by decide +kernel
theorem bd_57_52 : decode (bn_b 57) 52 = .ok (.istore_n 2, 1) := by decide +kernel
theorem bd_57_53 : decode (bn_b 57) 53 = .ok (.aload_n 0, 1) := by decide +kernel
theorem bd_57_54 : decode (bn_b 57) 54 = .ok (.getfield 19, 3) := by decide +kernel
theorem bd_57_57 : decode (bn_b 57) 57 = .ok (.iload_n 2, 1) := by decide +kernel
theorem bd_57_58 : decode (bn_b 57) 58 = .ok (.iload_n 1, 1) := by decide +kernel
theorem bd_57_59 : decode (bn_b 57) 59 = .ok (.irem, 1) := by decide +kernel
theorem bd_57_60 : decode (bn_b 57) 60 = .ok (.invokevirtual 142, 3) := by decide +kernel
theorem bd_57_63 : decode (bn_b 57) 63 = .ok (.istore_n 3, 1) := by decide +kernel
theorem bd_57_64 : decode (bn_b 57) 64 = .ok (.aload_n 0, 1) := by decide +kernel
theorem bd_57_65 : decode (bn_b 57) 65 = .ok (.getfield 19, 3) := by decide +kernel
theorem bd_57_68 : decode (bn_b 57) 68 = .ok (.iload_n 3, 1) := by decide +kernel
theorem bd_57_69 : decode (bn_b 57) 69 = .ok (.invokevirtual 145, 3) := by decide +kernel
theorem bd_57_72 : decode (bn_b 57) 72 = .ok (.istore 4, 2) := by decide +kernel
theorem bd_57_74 : decode (bn_b 57) 74 = .ok (.iload 4, 2) := by decide +kernel
theorem bd_57_76 : decode (bn_b 57) 76 = .ok (.ifCond .ne 8, 3) := by decide +kernel
theorem bd_57_79 : decode (bn_b 57) 79 = .ok (.bipush (-9), 2) := by decide +kernel
theorem bd_57_81 : decode (bn_b 57) 81 = .ok (.goto 17, 3) := by decide +kernel
theorem bd_57_84 : decode (bn_b 57) 84 = .ok (.aload_n 0, 1) := by decide +kernel
theorem bd_57_85 : decode (bn_b 57) 85 = .ok (.getfield 19, 3) := by decide +kernel
theorem bd_57_88 : decode (bn_b 57) 88 = .ok (.iload_n 3, 1) := by decide +kernel
theorem bd_57_89 : decode (bn_b 57) 89 = .ok (.iload_n 2, 1) := by decide +kernel
theorem bd_57_90 : decode (bn_b 57) 90 = .ok (.iload_n 1, 1) := by decide +kernel
theorem bd_57_91 : decode (bn_b 57) 91 = .ok (.idiv, 1) := by decide +kernel
theorem bd_57_92 : decode (bn_b 57) 92 = .ok (.iload 4, 2) := by decide +kernel
theorem bd_57_94 : decode (bn_b 57) 94 = .ok (.irem, 1) := by decide +kernel
theorem bd_57_95 : decode (bn_b 57) 95 = .ok (.invokevirtual 148, 3) := by decide +kernel
theorem bd_57_98 : decode (bn_b 57) 98 = .ok (.istore 5, 2) := by decide +kernel
theorem bd_57_100 : decode (bn_b 57) 100 = .ok (.iload 5, 2) := by decide +kernel
theorem bd_57_102 : decode (bn_b 57) 102 = .ok (.ifCond .ge 6, 3) := by decide +kernel
theorem bd_57_105 : decode (bn_b 57) 105 = .ok (.bipush (-9), 2) := by decide +kernel
theorem bd_57_107 : decode (bn_b 57) 107 = .ok (.ireturn, 1) := by decide +kernel
theorem bd_57_108 : decode (bn_b 57) 108 = .ok (.aload_n 0, 1) := by decide +kernel
theorem bd_57_109 : decode (bn_b 57) 109 = .ok (.getfield 19, 3) := by decide +kernel
theorem bd_57_112 : decode (bn_b 57) 112 = .ok (.getfield 99, 3) := by decide +kernel
theorem bd_57_115 : decode (bn_b 57) 115 = .ok (.iload 5, 2) := by decide +kernel
theorem bd_57_117 : decode (bn_b 57) 117 = .ok (.iload_n 3, 1) := by decide +kernel
theorem bd_57_118 : decode (bn_b 57) 118 = .ok (.iastore, 1) := by decide +kernel
theorem bd_57_119 : decode (bn_b 57) 119 = .ok (.bipush 10, 2) := by decide +kernel
theorem bd_57_121 : decode (bn_b 57) 121 = .ok (.iload_n 3, 1) := by decide +kernel
theorem bd_57_122 : decode (bn_b 57) 122 = .ok (.imul, 1) := by decide +kernel
theorem bd_57_123 : decode (bn_b 57) 123 = .ok (.iload 5, 2) := by decide +kernel
theorem bd_57_125 : decode (bn_b 57) 125 = .ok (.iadd, 1) := by decide +kernel
theorem bd_57_126 : decode (bn_b 57) 126 = .ok (.ireturn, 1) := by decide +kernel
theorem bd_58_0 : decode (bn_b 58) 0 = .ok (.aload_n 0, 1) := by decide +kernel
theorem bd_58_1 : decode (bn_b 58) 1 = .ok (.getfield 34, 3) := by decide +kernel
theorem bd_58_4 : decode (bn_b 58) 4 = .ok (.ifCond .ne 6, 3) := by decide +kernel
theorem bd_58_7 : decode (bn_b 58) 7 = .ok (.bipush (-3), 2) := by decide +kernel
theorem bd_58_9 : decode (bn_b 58) 9 = .ok (.ireturn, 1) := by decide +kernel
theorem bd_58_10 : decode (bn_b 58) 10 = .ok (.aload_n 0, 1) := by decide +kernel
theorem bd_58_11 : decode (bn_b 58) 11 = .ok (.dup, 1) := by decide +kernel
theorem bd_58_12 : decode (bn_b 58) 12 = .ok (.getfield 34, 3) := by decide +kernel
theorem bd_58_15 : decode (bn_b 58) 15 = .ok (.iconst 1, 1) := by decide +kernel
theorem bd_58_16 : decode (bn_b 58) 16 = .ok (.isub, 1) := by decide +kernel
theorem bd_58_17 : decode (bn_b 58) 17 = .ok (.putfield 34, 3) := by decide +kernel
theorem bd_58_20 : decode (bn_b 58) 20 = .ok (.aload_n 0, 1) := by decide +kernel
theorem bd_58_21 : decode (bn_b 58) 21 = .ok (.getfield 19, 3) := by decide +kernel
theorem bd_58_24 : decode (bn_b 58) 24 = .ok (.aload_n 0, 1) := by decide +kernel
theorem bd_58_25 : decode (bn_b 58) 25 = .ok (.getfield 26, 3) := by decide +kernel
theorem bd_58_28 : decode (bn_b 58) 28 = .ok (.aload_n 0, 1) := by decide +kernel
theorem bd_58_29 : decode (bn_b 58) 29 = .ok (.getfield 30, 3) := by decide +kernel
theorem bd_58_32 : decode (bn_b 58) 32 = .ok (.aload_n 0, 1) := by decide +kernel
theorem bd_58_33 : decode (bn_b 58) 33 = .ok (.getfield 34, 3) := by decide +kernel
theorem bd_58_36 : decode (bn_b 58) 36 = .ok (.iadd, 1) := by decide +kernel
theorem bd_58_37 : decode (bn_b 58) 37 = .ok (.bipush 20, 2) := by decide +kernel
theorem bd_58_39 : decode (bn_b 58) 39 = .ok (.irem, 1) := by decide +kernel
theorem bd_58_40 : decode (bn_b 58) 40 = .ok (.aaload, 1) := by decide +kernel
theorem bd_58_41 : decode (bn_b 58) 41 = .ok (.invokevirtual 59, 3) := by decide +kernel
theorem bd_58_44 : decode (bn_b 58) 44 = .ok (.aload_n 0, 1) := by decide +kernel
theorem bd_58_45 : decode (bn_b 58) 45 = .ok (.getfield 34, 3) := by decide +kernel
theorem bd_58_48 : decode (bn_b 58) 48 = .ok (.ireturn, 1) := by decide +kernel
theorem bd_59_0 : decode (bn_b 59) 0 = .ok (.aload_n 0, 1) := by decide +kernel
theorem bd_59_1 : decode (bn_b 59) 1 = .ok (.getfield 19, 3) := by decide +kernel
theorem bd_59_4 : decode (bn_b 59) 4 = .ok (.getfield 55, 3) := by decide +kernel
theorem bd_59_7 : decode (bn_b 59) 7 = .ok (.lstore_n 3, 1) := by decide +kernel
theorem bd_59_8 : decode (bn_b 59) 8 = .ok (.aload_n 0, 1) := by decide +kernel
theorem bd_59_9 : decode (bn_b 59) 9 = .ok (.getfield 19, 3) := by decide +kernel
theorem bd_59_12 : decode (bn_b 59) 12 = .ok (.lload_n 1, 1) := by decide +kernel
theorem bd_59_13 : decode (bn_b 59) 13 = .ok (.putfield 55, 3) := by decide +kernel
theorem bd_59_16 : decode (bn_b 59) 16 = .ok (.lload_n 3, 1) := by decide +kernel
theorem bd_59_17 : decode (bn_b 59) 17 = .ok (.lreturn, 1) := by decide +kernel
theorem bd_60_0 : decode (bn_b 60) 0 = .ok (.aload_n 0, 1) := by decide +kernel
theorem bd_60_1 : decode (bn_b 60) 1 = .ok (.invokevirtual 152, 3) := by decide +kernel
theorem bd_60_4 : decode (bn_b 60) 4 = .ok (.ireturn, 1) := by decide +kernel
theorem bd_61_0 : decode (bn_b 61) 0 = .ok (.aload_n 0, 1) := by decide +kernel
theorem bd_61_1 : decode (bn_b 61) 1 = .ok (.invokevirtual 152, 3) := by decide +kernel
theorem bd_61_4 : decode (bn_b 61) 4 = .ok (.ifCond .gt 6, 3) := by decide +kernel
theorem bd_61_7 : decode (bn_b 61) 7 = .ok (.bipush (-9), 2) := by decide +kernel
theorem bd_61_9 : decode (bn_b 61) 9 = .ok (.ireturn, 1) := by decide +kernel
theorem bd_61_10 : decode (bn_b 61) 10 = .ok (.iconst 0, 1) := by decide +kernel
theorem bd_61_11 : decode (bn_b 61) 11 = .ok (.istore_n 1, 1) := by decide +kernel
theorem bd_61_12 : decode (bn_b 61) 12 = .ok (.iload_n 1, 1) := by decide +kernel
theorem bd_61_13 : decode (bn_b 61) 13 = .ok (.aload_n 0, 1) := by decide +kernel
theorem bd_61_14 : decode (bn_b 61) 14 = .ok (.getfield 19, 3) := by decide +kernel
theorem bd_61_17 : decode (bn_b 61) 17 = .ok (.getfield 66, 3) := by decide +kernel
theorem bd_61_20 : decode (bn_b 61) 20 = .ok (.if_icmp .ge 33, 3) := by decide +kernel
theorem bd_61_23 : decode (bn_b 61) 23 = .ok (.aload_n 0, 1) := by decide +kernel
theorem bd_61_24 : decode (bn_b 61) 24 = .ok (.getfield 19, 3) := by decide +kernel
theorem bd_61_27 : decode (bn_b 61) 27 = .ok (.iload_n 1, 1) := by decide +kernel
theorem bd_61_28 : decode (bn_b 61) 28 = .ok (.invokevirtual 80, 3) := by decide +kernel
theorem bd_61_31 : decode (bn_b 61) 31 = .ok (.ifCond .eq 16, 3) := by decide +kernel
theorem bd_61_34 : decode (bn_b 61) 34 = .ok (.aload_n 0, 1) := by decide +kernel
theorem bd_61_35 : decode (bn_b 61) 35 = .ok (.getfield 23, 3) := by decide +kernel
theorem bd_61_38 : decode (bn_b 61) 38 = .ok (.iload_n 1, 1) := by decide +kernel
theorem bd_61_39 : decode (bn_b 61) 39 = .ok (.invokevirtual 80, 3) := by decide +kernel
theorem bd_61_42 : decode (bn_b 61) 42 = .ok (.ifCond .ne 5, 3) := by decide +kernel
theorem bd_61_45 : decode (bn_b 61) 45 = .ok (.iload_n 1, 1) := by decide +kernel
theorem bd_61_46 : decode (bn_b 61) 46 = .ok (.ireturn, 1) := by decide +kernel
theorem bd_61_47 : decode (bn_b 61) 47 = .ok (.iinc 1 1, 3) := by decide +kernel
theorem bd_61_50 : decode (bn_b 61) 50 = .ok (.goto (-38), 3) := by decide +kernel
theorem bd_61_53 : decode (bn_b 61) 53 = .ok (.bipush (-9), 2) := by decide +kernel
theorem bd_61_55 : decode (bn_b 61) 55 = .ok (.ireturn, 1) := by decide +kernel
theorem bd_62_0 : decode (bn_b 62) 0 = .ok (.aload_n 0, 1) := by decide +kernel
theorem bd_62_1 : decode (bn_b 62) 1 = .ok (.getfield 19, 3) := by decide +kernel
theorem bd_62_4 : decode (bn_b 62) 4 = .ok (.invokevirtual 135, 3) := by decide +kernel
theorem bd_62_7 : decode (bn_b 62) 7 = .ok (.istore_n 1, 1) := by decide +kernel
theorem bd_62_8 : decode (bn_b 62) 8 = .ok (.iload_n 1, 1) := by decide +kernel
theorem bd_62_9 : decode (bn_b 62) 9 = .ok (.ifCond .eq 8, 3) := by decide +kernel
theorem bd_62_12 : decode (bn_b 62) 12 = .ok (.iload_n 1, 1) := by decide +kernel
theorem bd_62_13 : decode (bn_b 62) 13 = .ok (.iconst 3, 1) := by decide +kernel
theorem bd_62_14 : decode (bn_b 62) 14 = .ok (.if_icmp .le 6, 3) := by decide +kernel
theorem bd_62_17 : decode (bn_b 62) 17 = .ok (.bipush (-3), 2) := by decide +kernel
theorem bd_62_19 : decode (bn_b 62) 19 = .ok (.ireturn, 1) := by decide +kernel
theorem bd_62_20 : decode (bn_b 62) 20 = .ok (.iconst 0, 1) := by decide +kernel
theorem bd_62_21 : decode (bn_b 62) 21 = .ok (.istore_n 2, 1) := by decide +kernel
theorem bd_62_22 : decode (bn_b 62) 22 = .ok (.iload_n 2, 1) := by decide +kernel
theorem bd_62_23 : decode (bn_b 62) 23 = .ok (.sipush 200, 3) := by decide +kernel
theorem bd_62_26 : decode (bn_b 62) 26 = .ok (.if_icmp .ge 22, 3) := by decide +kernel
theorem bd_62_29 : decode (bn_b 62) 29 = .ok (.aload_n 0, 1) := by decide +kernel
theorem bd_62_30 : decode (bn_b 62) 30 = .ok (.getfield 19, 3) := by decide +kernel
theorem bd_62_33 : decode (bn_b 62) 33 = .ok (.iload_n 2, 1) := by decide +kernel
theorem bd_62_34 : decode (bn_b 62) 34 = .ok (.iconst 1, 1) := by decide +kernel
theorem bd_62_35 : decode (bn_b 62) 35 = .ok (.iadd, 1) := by decide +kernel
theorem bd_62_36 : decode (bn_b 62) 36 = .ok (.invokevirtual 155, 3) := by decide +kernel
theorem bd_62_39 : decode (bn_b 62) 39 = .ok (.ifCond .eq 9, 3) := by decide +kernel
theorem bd_62_42 : decode (bn_b 62) 42 = .ok (.iinc 2 1, 3) := by decide +kernel
theorem bd_62_45 : decode (bn_b 62) 45 = .ok (.goto (-23), 3) := by decide +kernel
theorem bd_62_48 : decode (bn_b 62) 48 = .ok (.iload_n 2, 1) := by decide +kernel
theorem bd_62_49 : decode (bn_b 62) 49 = .ok (.ireturn, 1) := by decide +kernel
theorem bd_63_0 : decode (bn_b 63) 0 = .ok (.aload_n 0, 1) := by decide +kernel
theorem bd_63_1 : decode (bn_b 63) 1 = .ok (.getfield 19, 3) := by decide +kernel
theorem bd_63_4 : decode (bn_b 63) 4 = .ok (.invokevirtual 158, 3) := by decide +kernel
theorem bd_63_7 : decode (bn_b 63) 7 = .ok (.istore_n 2, 1) := by decide +kernel
theorem bd_63_8 : decode (bn_b 63) 8 = .ok (.iconst 0, 1) := by decide +kernel
theorem bd_63_9 : decode (bn_b 63) 9 = .ok (.istore_n 3, 1) := by decide +kernel
theorem bd_63_10 : decode (bn_b 63) 10 = .ok (.iconst 1, 1) := by decide +kernel
theorem bd_63_11 : decode (bn_b 63) 11 = .ok (.istore 4, 2) := by decide +kernel
theorem bd_63_13 : decode (bn_b 63) 13 = .ok (.iload 4, 2) := by decide +kernel
theorem bd_63_15 : decode (bn_b 63) 15 = .ok (.iload_n 2, 1) := by decide +kernel
theorem bd_63_16 : decode (bn_b 63) 16 = .ok (.if_icmp .ge 32, 3) := by decide +kernel
theorem bd_63_19 : decode (bn_b 63) 19 = .ok (.aload_n 0, 1) := by decide +kernel
theorem bd_63_20 : decode (bn_b 63) 20 = .ok (.getfield 19, 3) := by decide +kernel
theorem bd_63_23 : decode (bn_b 63) 23 = .ok (.iload 4, 2) := by decide +kernel
theorem bd_63_25 : decode (bn_b 63) 25 = .ok (.invokevirtual 161, 3) := by decide +kernel
theorem bd_63_28 : decode (bn_b 63) 28 = .ok (.ifCond .ne 14, 3) := by decide +kernel
theorem bd_63_31 : decode (bn_b 63) 31 = .ok (.iload_n 3, 1) := by decide +kernel
theorem bd_63_32 : decode (bn_b 63) 32 = .ok (.iload_n 1, 1) := by decide +kernel
theorem bd_63_33 : decode (bn_b 63) 33 = .ok (.if_icmp .ne 6, 3) := by decide +kernel
theorem bd_63_36 : decode (bn_b 63) 36 = .ok (.iload 4, 2) := by decide +kernel
theorem bd_63_38 : decode (bn_b 63) 38 = .ok (.ireturn, 1) := by decide +kernel
theorem bd_63_39 : decode (bn_b 63) 39 = .ok (.iinc 3 1, 3) := by decide +kernel
theorem bd_63_42 : decode (bn_b 63) 42 = .ok (.iinc 4 1, 3) := by decide +kernel
theorem bd_63_45 : decode (bn_b 63) 45 = .ok (.goto (-32), 3) := by decide +kernel
theorem bd_63_48 : decode (bn_b 63) 48 = .ok (.bipush (-9), 2) := by decide +kernel
theorem bd_63_50 : decode (bn_b 63) 50 = .ok (.ireturn, 1) := by decide +kernel
theorem bd_64_0 : decode (bn_b 64) 0 = .ok (.iload_n 1, 1) := by decide +kernel
theorem bd_64_1 : decode (bn_b 64) 1 = .ok (.iconst 1, 1) := by decide +kernel
theorem bd_64_2 : decode (bn_b 64) 2 = .ok (.if_icmp .lt 30, 3) := by decide +kernel
theorem bd_64_5 : decode (bn_b 64) 5 = .ok (.iload_n 1, 1) := by decide +kernel
theorem bd_64_6 : decode (bn_b 64) 6 = .ok (.bipush 99, 2) := by decide +kernel
theorem bd_64_8 : decode (bn_b 64) 8 = .ok (.if_icmp .gt 24, 3) := by decide +kernel
theorem bd_64_11 : decode (bn_b 64) 11 = .ok (.iload_n 2, 1) := by decide +kernel
theorem bd_64_12 : decode (bn_b 64) 12 = .ok (.iconst 1, 1) := by decide +kernel
theorem bd_64_13 : decode (bn_b 64) 13 = .ok (.if_icmp .lt 19, 3) := by decide +kernel
theorem bd_64_16 : decode (bn_b 64) 16 = .ok (.iload_n 2, 1) := by decide +kernel
theorem bd_64_17 : decode (bn_b 64) 17 = .ok (.bipush 99, 2) := by decide +kernel
theorem bd_64_19 : decode (bn_b 64) 19 = .ok (.if_icmp .gt 13, 3) := by decide +kernel
theorem bd_64_22 : decode (bn_b 64) 22 = .ok (.iload_n 3, 1) := by decide +kernel
theorem bd_64_23 : decode (bn_b 64) 23 = .ok (.ifCond .lt 9, 3) := by decide +kernel
theorem bd_64_26 : decode (bn_b 64) 26 = .ok (.iload_n 3, 1) := by decide +kernel
theorem bd_64_27 : decode (bn_b 64) 27 = .ok (.bipush 10, 2) := by decide +kernel
theorem bd_64_29 : decode (bn_b 64) 29 = .ok (.if_icmp .le 6, 3) := by decide +kernel
theorem bd_64_32 : decode (bn_b 64) 32 = .ok (.bipush (-2), 2) := by decide +kernel
theorem bd_64_34 : decode (bn_b 64) 34 = .ok (.ireturn, 1) := by decide +kernel
theorem bd_64_35 : decode (bn_b 64) 35 = .ok (.iconst 0, 1) := by decide +kernel
theorem bd_64_36 : decode (bn_b 64) 36 = .ok (.istore 5, 2) := by decide +kernel
theorem bd_64_38 : decode (bn_b 64) 38 = .ok (.iconst 1, 1) := by decide +kernel
theorem bd_64_39 : decode (bn_b 64) 39 = .ok (.istore 6, 2) := by decide +kernel
theorem bd_64_41 : decode (bn_b 64) 41 = .ok (.iload 6, 2) := by decide +kernel
theorem bd_64_43 : decode (bn_b 64) 43 = .ok (.iload_n 2, 1) := by decide +kernel
theorem bd_64_44 : decode (bn_b 64) 44 = .ok (.if_icmp .gt 32, 3) := by decide +kernel
theorem bd_64_47 : decode (bn_b 64) 47 = .ok (.iload 6, 2) := by decide +kernel
theorem bd_64_49 : decode (bn_b 64) 49 = .ok (.invokestatic 125, 3) := by decide +kernel
theorem bd_64_52 : decode (bn_b 64) 52 = .ok (.ifCond .eq 18, 3) := by decide +kernel
theorem bd_64_55 : decode (bn_b 64) 55 = .ok (.iload 6, 2) := by decide +kernel
theorem bd_64_57 : decode (bn_b 64) 57 = .ok (.invokestatic 128, 3) := by decide +kernel
theorem bd_64_60 : decode (bn_b 64) 60 = .ok (.iload_n 1, 1) := by decide +kernel
theorem bd_64_61 : decode (bn_b 64) 61 = .ok (.if_icmp .ne 9, 3) := by decide +kernel
theorem bd_64_64 : decode (bn_b 64) 64 = .ok (.iload 5, 2) := by decide +kernel
theorem bd_64_66 : decode (bn_b 64) 66 = .ok (.iload_n 3, 1) := by decide +kernel
theorem bd_64_67 : decode (bn_b 64) 67 = .ok (.iadd, 1) := by decide +kernel
theorem bd_64_68 : decode (bn_b 64) 68 = .ok (.istore 5, 2) := by decide +kernel
theorem bd_64_70 : decode (bn_b 64) 70 = .ok (.iinc 6 1, 3) := by decide +kernel
theorem bd_64_73 : decode (bn_b 64) 73 = .ok (.goto (-32), 3) := by decide +kernel
theorem bd_64_76 : decode (bn_b 64) 76 = .ok (.iload 5, 2) := by decide +kernel
theorem bd_64_78 : decode (bn_b 64) 78 = .ok (.istore 6, 2) := by decide +kernel
theorem bd_64_80 : decode (bn_b 64) 80 = .ok (.iload_n 1, 1) := by decide +kernel
theorem bd_64_81 : decode (bn_b 64) 81 = .ok (.iload_n 2, 1) := by decide +kernel
theorem bd_64_82 : decode (bn_b 64) 82 = .ok (.if_icmp .gt 24, 3) := by decide +kernel
theorem bd_64_85 : decode (bn_b 64) 85 = .ok (.iload 6, 2) := by decide +kernel
theorem bd_64_87 : decode (bn_b 64) 87 = .ok (.iload_n 1, 1) := by decide +kernel
theorem bd_64_88 : decode (bn_b 64) 88 = .ok (.invokestatic 125, 3) := by decide +kernel
theorem bd_64_91 : decode (bn_b 64) 91 = .ok (.ifCond .eq 10, 3) := by decide +kernel
theorem bd_64_94 : decode (bn_b 64) 94 = .ok (.bipush 10, 2) := by decide +kernel
theorem bd_64_96 : decode (bn_b 64) 96 = .ok (.iload_n 3, 1) := by decide +kernel
theorem bd_64_97 : decode (bn_b 64) 97 = .ok (.isub, 1) := by decide +kernel
theorem bd_64_98 : decode (bn_b 64) 98 = .ok (.goto 5, 3) := by decide +kernel
theorem bd_64_101 : decode (bn_b 64) 101 = .ok (.bipush 10, 2) := by decide +kernel
theorem bd_64_103 : decode (bn_b 64) 103 = .ok (.iadd, 1) := by decide +kernel
theorem bd_64_104 : decode (bn_b 64) 104 = .ok (.istore 6, 2) := by decide +kernel
theorem bd_64_106 : decode (bn_b 64) 106 = .ok (.iload 6, 2) := by decide +kernel
theorem bd_64_108 : decode (bn_b 64) 108 = .ok (.ifCond .ne 6, 3) := by decide +kernel
theorem bd_64_111 : decode (bn_b 64) 111 = .ok (.bipush (-3), 2) := by decide +kernel
theorem bd_64_113 : decode (bn_b 64) 113 = .ok (.ireturn, 1) := by decide +kernel
theorem bd_64_114 : decode (bn_b 64) 114 = .ok (.iload 5, 2) := by decide +kernel
theorem bd_64_116 : decode (bn_b 64) 116 = .ok (.i2l, 1) := by decide +kernel
theorem bd_64_117 : decode (bn_b 64) 117 = .ok (.iload 6, 2) := by decide +kernel
theorem bd_64_119 : decode (bn_b 64) 119 = .ok (.i2l, 1) := by decide +kernel
theorem bd_64_120 : decode (bn_b 64) 120 = .ok (.iload 4, 2) := by decide +kernel
theorem bd_64_122 : decode (bn_b 64) 122 = .ok (.invokestatic 164, 3) := by decide +kernel
theorem bd_64_125 : decode (bn_b 64) 125 = .ok (.l2i, 1) := by decide +kernel
theorem bd_64_126 : decode (bn_b 64) 126 = .ok (.ireturn, 1) := by decide +kernel
theorem bd_65_0 : decode (bn_b 65) 0 = .ok (.iload_n 1, 1) := by decide +kernel
theorem bd_65_1 : decode (bn_b 65) 1 = .ok (.ifCond .lt 9, 3) := by decide +kernel
theorem bd_65_4 : decode (bn_b 65) 4 = .ok (.iload_n 1, 1) := by decide +kernel
theorem bd_65_5 : decode (bn_b 65) 5 = .ok (.bipush 10, 2) := by decide +kernel
theorem bd_65_7 : decode (bn_b 65) 7 = .ok (.if_icmp .le 7, 3) := by decide +kernel
theorem bd_65_10 : decode (bn_b 65) 10 = .ok (.ldc2_w 168, 3) := by decide +kernel
theorem bd_65_13 : decode (bn_b 65) 13 = .ok (.lreturn, 1) := by decide +kernel
theorem bd_65_14 : decode (bn_b 65) 14 = .ok (.aload_n 0, 1) := by decide +kernel
theorem bd_65_15 : decode (bn_b 65) 15 = .ok (.getfield 19, 3) := by decide +kernel
theorem bd_65_18 : decode (bn_b 65) 18 = .ok (.invokevirtual 135, 3) := by decide +kernel
theorem bd_65_21 : decode (bn_b 65) 21 = .ok (.ifCond .ne 7, 3) := by decide +kernel
theorem bd_65_24 : decode (bn_b 65) 24 = .ok (.ldc2_w 170, 3) := by decide +kernel
theorem bd_65_27 : decode (bn_b 65) 27 = .ok (.lreturn, 1) := by decide +kernel
theorem bd_65_28 : decode (bn_b 65) 28 = .ok (.aload_n 0, 1) := by decide +kernel
theorem bd_65_29 : decode (bn_b 65) 29 = .ok (.invokevirtual 152, 3) := by decide +kernel
theorem bd_65_32 : decode (bn_b 65) 32 = .ok (.istore_n 3, 1) := by decide +kernel
theorem bd_65_33 : decode (bn_b 65) 33 = .ok (.iload_n 3, 1) := by decide +kernel
theorem bd_65_34 : decode (bn_b 65) 34 = .ok (.bipush (-9), 2) := by decide +kernel
theorem bd_65_36 : decode (bn_b 65) 36 = .ok (.if_icmp .ne 9, 3) := by decide +kernel
theorem bd_65_39 : decode (bn_b 65) 39 = .ok (.sipush 199, 3) := by decide +kernel
theorem bd_65_42 : decode (bn_b 65) 42 = .ok (.goto 6, 3) := by decide +kernel
theorem bd_65_45 : decode (bn_b 65) 45 = .ok (.iload_n 3, 1) := by decide +kernel
theorem bd_65_46 : decode (bn_b 65) 46 = .ok (.iconst 1, 1) := by decide +kernel
theorem bd_65_47 : decode (bn_b 65) 47 = .ok (.isub, 1) := by decide +kernel
theorem bd_65_48 : decode (bn_b 65) 48 = .ok (.istore 4, 2) := by decide +kernel
theorem bd_65_50 : decode (bn_b 65) 50 = .ok (.lconst 1, 1) := by decide +kernel
theorem bd_65_51 : decode (bn_b 65) 51 = .ok (.lstore 5, 2) := by decide +kernel
theorem bd_65_53 : decode (bn_b 65) 53 = .ok (.lconst 1, 1) := by decide +kernel
theorem bd_65_54 : decode (bn_b 65) 54 = .ok (.lstore 7, 2) := by decide +kernel
theorem bd_65_56 : decode (bn_b 65) 56 = .ok (.iconst 0, 1) := by decide +kernel
theorem bd_65_57 : decode (bn_b 65) 57 = .ok (.istore 9, 2) := by decide +kernel
theorem bd_65_59 : decode (bn_b 65) 59 = .ok (.iload 9, 2) := by decide +kernel
theorem bd_65_61 : decode (bn_b 65) 61 = .ok (.iload 4, 2) := by decide +kernel
theorem bd_65_63 : decode (bn_b 65) 63 = .ok (.if_icmp .ge 34, 3) := by decide +kernel
theorem bd_65_66 : decode (bn_b 65) 66 = .ok (.iload 9, 2) := by decide +kernel
theorem bd_65_68 : decode (bn_b 65) 68 = .ok (.bipush 18, 2) := by decide +kernel
theorem bd_65_70 : decode (bn_b 65) 70 = .ok (.if_icmp .ge 27, 3) := by decide +kernel
theorem bd_65_73 : decode (bn_b 65) 73 = .ok (.lload 5, 2) := by decide +kernel
theorem bd_65_75 : decode (bn_b 65) 75 = .ok (.ldc2_w 172, 3) := by decide +kernel
theorem bd_65_78 : decode (bn_b 65) 78 = .ok (.lmul, 1) := by decide +kernel
theorem bd_65_79 : decode (bn_b 65) 79 = .ok (.lstore 5, 2) := by decide +kernel
theorem bd_65_81 : decode (bn_b 65) 81 = .ok (.lload 7, 2) := by decide +kernel
theorem bd_65_83 : decode (bn_b 65) 83 = .ok (.bipush 10, 2) := by decide +kernel
theorem bd_65_85 : decode (bn_b 65) 85 = .ok (.iload_n 1, 1) := by decide +kernel
theorem bd_65_86 : decode (bn_b 65) 86 = .ok (.isub, 1) := by decide +kernel
theorem bd_65_87 : decode (bn_b 65) 87 = .ok (.i2l, 1) := by decide +kernel
theorem bd_65_88 : decode (bn_b 65) 88 = .ok (.lmul, 1) := by decide +kernel
theorem bd_65_89 : decode (bn_b 65) 89 = .ok (.lstore 7, 2) := by decide +kernel
theorem bd_65_91 : decode (bn_b 65) 91 = .ok (.iinc 9 1, 3) := by decide +kernel
theorem bd_65_94 : decode (bn_b 65) 94 = .ok (.goto (-35), 3) := by decide +kernel
theorem bd_65_97 : decode (bn_b 65) 97 = .ok (.lload 5, 2) := by decide +kernel
theorem bd_65_99 : decode (bn_b 65) 99 = .ok (.lload 7, 2) := by decide +kernel
theorem bd_65_101 : decode (bn_b 65) 101 = .ok (.lsub, 1) := by decide +kernel
theorem bd_65_102 : decode (bn_b 65) 102 = .ok (.lload 5, 2) := by decide +kernel
theorem bd_65_104 : decode (bn_b 65) 104 = .ok (.iload_n 2, 1) := by decide +kernel
theorem bd_65_105 : decode (bn_b 65) 105 = .ok (.invokestatic 164, 3) := by decide +kernel
theorem bd_65_108 : decode (bn_b 65) 108 = .ok (.lreturn, 1) := by decide +kernel
theorem bd_66_0 : decode (bn_b 66) 0 = .ok (.iload_n 1, 1) := by decide +kernel
theorem bd_66_1 : decode (bn_b 66) 1 = .ok (.ifCond .lt 8, 3) := by decide +kernel
theorem bd_66_4 : decode (bn_b 66) 4 = .ok (.iload_n 1, 1) := by decide +kernel
theorem bd_66_5 : decode (bn_b 66) 5 = .ok (.iconst 2, 1) := by decide +kernel
theorem bd_66_6 : decode (bn_b 66) 6 = .ok (.if_icmp .lt 5, 3) := by decide +kernel
theorem bd_66_9 : decode (bn_b 66) 9 = .ok (.iconst (-1), 1) := by decide +kernel
theorem bd_66_10 : decode (bn_b 66) 10 = .ok (.ireturn, 1) := by decide +kernel
theorem bd_66_11 : decode (bn_b 66) 11 = .ok (.aload_n 0, 1) := by decide +kernel
theorem bd_66_12 : decode (bn_b 66) 12 = .ok (.getfield 37, 3) := by decide +kernel
theorem bd_66_15 : decode (bn_b 66) 15 = .ok (.iload_n 1, 1) := by decide +kernel
theorem bd_66_16 : decode (bn_b 66) 16 = .ok (.aaload, 1) := by decide +kernel
theorem bd_66_17 : decode (bn_b 66) 17 = .ok (.aload_n 0, 1) := by decide +kernel
theorem bd_66_18 : decode (bn_b 66) 18 = .ok (.getfield 19, 3) := by decide +kernel
theorem bd_66_21 : decode (bn_b 66) 21 = .ok (.invokevirtual 59, 3) := by decide +kernel
theorem bd_66_24 : decode (bn_b 66) 24 = .ok (.aload_n 0, 1) := by decide +kernel
theorem bd_66_25 : decode (bn_b 66) 25 = .ok (.getfield 40, 3) := by decide +kernel
theorem bd_66_28 : decode (bn_b 66) 28 = .ok (.iload_n 1, 1) := by decide +kernel
theorem bd_66_29 : decode (bn_b 66) 29 = .ok (.iconst 1, 1) := by decide +kernel
theorem bd_66_30 : decode (bn_b 66) 30 = .ok (.bastore, 1) := by decide +kernel
theorem bd_66_31 : decode (bn_b 66) 31 = .ok (.aload_n 0, 1) := by decide +kernel
theorem bd_66_32 : decode (bn_b 66) 32 = .ok (.getfield 19, 3) := by decide +kernel
theorem bd_66_35 : decode (bn_b 66) 35 = .ok (.getfield 174, 3) := by decide +kernel
theorem bd_66_38 : decode (bn_b 66) 38 = .ok (.ireturn, 1) := by decide +kernel
theorem bd_67_0 : decode (bn_b 67) 0 = .ok (.iload_n 1, 1) := by decide +kernel
theorem bd_67_1 : decode (bn_b 67) 1 = .ok (.ifCond .lt 8, 3) := by decide +kernel
theorem bd_67_4 : decode (bn_b 67) 4 = .ok (.iload_n 1, 1) := by decide +kernel
theorem bd_67_5 : decode (bn_b 67) 5 = .ok (.iconst 2, 1) := by decide +kernel
theorem bd_67_6 : decode (bn_b 67) 6 = .ok (.if_icmp .lt 5, 3) := by decide +kernel
theorem bd_67_9 : decode (bn_b 67) 9 = .ok (.iconst (-1), 1) := by decide +kernel
theorem bd_67_10 : decode (bn_b 67) 10 = .ok (.ireturn, 1) := by decide +kernel
theorem bd_67_11 : decode (bn_b 67) 11 = .ok (.aload_n 0, 1) := by decide +kernel
theorem bd_67_12 : decode (bn_b 67) 12 = .ok (.getfield 40, 3) := by decide +kernel
theorem bd_67_15 : decode (bn_b 67) 15 = .ok (.iload_n 1, 1) := by decide +kernel
theorem bd_67_16 : decode (bn_b 67) 16 = .ok (.baload, 1) := by decide +kernel
theorem bd_67_17 : decode (bn_b 67) 17 = .ok (.ifCond .ne 6, 3) := by decide +kernel
theorem bd_67_20 : decode (bn_b 67) 20 = .ok (.bipush (-3), 2) := by decide +kernel
theorem bd_67_22 : decode (bn_b 67) 22 = .ok (.ireturn, 1) := by decide +kernel
theorem bd_67_23 : decode (bn_b 67) 23 = .ok (.aload_n 0, 1) := by decide +kernel
theorem bd_67_24 : decode (bn_b 67) 24 = .ok (.getfield 19, 3) := by decide +kernel
theorem bd_67_27 : decode (bn_b 67) 27 = .ok (.aload_n 0, 1) := by decide +kernel
theorem bd_67_28 : decode (bn_b 67) 28 = .ok (.getfield 37, 3) := by decide +kernel
theorem bd_67_31 : decode (bn_b 67) 31 = .ok (.iload_n 1, 1) := by decide +kernel
theorem bd_67_32 : decode (bn_b 67) 32 = .ok (.aaload, 1) := by decide +kernel
theorem bd_67_33 : decode (bn_b 67) 33 = .ok (.invokevirtual 59, 3) := by decide +kernel
theorem bd_67_36 : decode (bn_b 67) 36 = .ok (.aload_n 0, 1) := by decide +kernel
theorem bd_67_37 : decode (bn_b 67) 37 = .ok (.invokevirtual 63, 3) := by decide +kernel
theorem bd_67_40 : decode (bn_b 67) 40 = .ok (.aload_n 0, 1) := by decide +kernel
theorem bd_67_41 : decode (bn_b 67) 41 = .ok (.getfield 19, 3) := by decide +kernel
theorem bd_67_44 : decode (bn_b 67) 44 = .ok (.getfield 174, 3) := by decide +kernel
theorem bd_67_47 : decode (bn_b 67) 47 = .ok (.ireturn, 1) := by decide +kernel
theorem bd_68_0 : decode (bn_b 68) 0 = .ok (.iload_n 1, 1) := by decide +kernel
theorem bd_68_1 : decode (bn_b 68) 1 = .ok (.tableswitch 132 0 9 #[55, 63, 71, 79, 87, 95, 103, 111, 116, 124], 55) := by decide +kernel
theorem bd_68_56 : decode (bn_b 68) 56 = .ok (.aload_n 0, 1) := by decide +kernel
theorem bd_68_57 : decode (bn_b 68) 57 = .ok (.getfield 12, 3) := by decide +kernel
theorem bd_68_60 : decode (bn_b 68) 60 = .ok (.getfield 44, 3) := by decide +kernel
theorem bd_68_63 : decode (bn_b 68) 63 = .ok (.ireturn, 1) := by decide +kernel
theorem bd_68_64 : decode (bn_b 68) 64 = .ok (.aload_n 0, 1) := by decide +kernel
theorem bd_68_65 : decode (bn_b 68) 65 = .ok (.getfield 19, 3) := by decide +kernel
theorem bd_68_68 : decode (bn_b 68) 68 = .ok (.getfield 66, 3) := by decide +kernel
theorem bd_68_71 : decode (bn_b 68) 71 = .ok (.ireturn, 1) := by decide +kernel
theorem bd_68_72 : decode (bn_b 68) 72 = .ok (.aload_n 0, 1) := by decide +kernel
theorem bd_68_73 : decode (bn_b 68) 73 = .ok (.getfield 19, 3) := by decide +kernel
theorem bd_68_76 : decode (bn_b 68) 76 = .ok (.getfield 69, 3) := by decide +kernel
theorem bd_68_79 : decode (bn_b 68) 79 = .ok (.ireturn, 1) := by decide +kernel
theorem bd_68_80 : decode (bn_b 68) 80 = .ok (.aload_n 0, 1) := by decide +kernel
theorem bd_68_81 : decode (bn_b 68) 81 = .ok (.getfield 19, 3) := by decide +kernel
theorem bd_68_84 : decode (bn_b 68) 84 = .ok (.invokevirtual 177, 3) := by decide +kernel
theorem bd_68_87 : decode (bn_b 68) 87 = .ok (.ireturn, 1) := by decide +kernel
theorem bd_68_88 : decode (bn_b 68) 88 = .ok (.aload_n 0, 1) := by decide +kernel
theorem bd_68_89 : decode (bn_b 68) 89 = .ok (.getfield 19, 3) := by decide +kernel
theorem bd_68_92 : decode (bn_b 68) 92 = .ok (.getfield 174, 3) := by decide +kernel
theorem bd_68_95 : decode (bn_b 68) 95 = .ok (.ireturn, 1) := by decide +kernel
theorem bd_68_96 : decode (bn_b 68) 96 = .ok (.aload_n 0, 1) := by decide +kernel
theorem bd_68_97 : decode (bn_b 68) 97 = .ok (.getfield 19, 3) := by decide +kernel
theorem bd_68_100 : decode (bn_b 68) 100 = .ok (.invokevirtual 180, 3) := by decide +kernel
theorem bd_68_103 : decode (bn_b 68) 103 = .ok (.ireturn, 1) := by decide +kernel
theorem bd_68_104 : decode (bn_b 68) 104 = .ok (.aload_n 0, 1) := by decide +kernel
theorem bd_68_105 : decode (bn_b 68) 105 = .ok (.getfield 19, 3) := by decide +kernel
theorem bd_68_108 : decode (bn_b 68) 108 = .ok (.invokevirtual 183, 3) := by decide +kernel
theorem bd_68_111 : decode (bn_b 68) 111 = .ok (.ireturn, 1) := by decide +kernel
theorem bd_68_112 : decode (bn_b 68) 112 = .ok (.aload_n 0, 1) := by decide +kernel
theorem bd_68_113 : decode (bn_b 68) 113 = .ok (.getfield 34, 3) := by decide +kernel
theorem bd_68_116 : decode (bn_b 68) 116 = .ok (.ireturn, 1) := by decide +kernel
theorem bd_68_117 : decode (bn_b 68) 117 = .ok (.aload_n 0, 1) := by decide +kernel
theorem bd_68_118 : decode (bn_b 68) 118 = .ok (.getfield 19, 3) := by decide +kernel
theorem bd_68_121 : decode (bn_b 68) 121 = .ok (.invokevirtual 186, 3) := by decide +kernel
theorem bd_68_124 : decode (bn_b 68) 124 = .ok (.ireturn, 1) := by decide +kernel
theorem bd_68_125 : decode (bn_b 68) 125 = .ok (.aload_n 0, 1) := by decide +kernel
theorem bd_68_126 : decode (bn_b 68) 126 = .ok (.getfield 19, 3) := by decide +kernel
theorem bd_68_129 : decode (bn_b 68) 129 = .ok (.getfield 189, 3) := by decide +kernel
theorem bd_68_132 : decode (bn_b 68) 132 = .ok (.ireturn, 1) := by decide +kernel
theorem bd_68_133 : decode (bn_b 68) 133 = .ok (.bipush (-2), 2) := by decide +kernel
theorem bd_68_135 : decode (bn_b 68) 135 = .ok (.ireturn, 1) := by decide +kernel
theorem bd_69_0 : decode (bn_b 69) 0 = .ok (.aload_n 0, 1) := by decide +kernel
theorem bd_69_1 : decode (bn_b 69) 1 = .ok (.getfield 34, 3) := by decide +kernel
theorem bd_69_4 : decode (bn_b 69) 4 = .ok (.bipush 20, 2) := by decide +kernel
theorem bd_69_6 : decode (bn_b 69) 6 = .ok (.if_icmp .ne 26, 3) := by decide +kernel
theorem bd_69_9 : decode (bn_b 69) 9 = .ok (.aload_n 0, 1) := by decide +kernel
theorem bd_69_10 : decode (bn_b 69) 10 = .ok (.aload_n 0, 1) := by decide +kernel
theorem bd_69_11 : decode (bn_b 69) 11 = .ok (.getfield 30, 3) := by decide +kernel
theorem bd_69_14 : decode (bn_b 69) 14 = .ok (.iconst 1, 1) := by decide +kernel
theorem bd_69_15 : decode (bn_b 69) 15 = .ok (.iadd, 1) := by decide +kernel
theorem bd_69_16 : decode (bn_b 69) 16 = .ok (.bipush 20, 2) := by decide +kernel
theorem bd_69_18 : decode (bn_b 69) 18 = .ok (.irem, 1) := by decide +kernel
theorem bd_69_19 : decode (bn_b 69) 19 = .ok (.putfield 30, 3) := by decide +kernel
theorem bd_69_22 : decode (bn_b 69) 22 = .ok (.aload_n 0, 1) := by decide +kernel
theorem bd_69_23 : decode (bn_b 69) 23 = .ok (.dup, 1) := by decide +kernel
theorem bd_69_24 : decode (bn_b 69) 24 = .ok (.getfield 34, 3) := by decide +kernel
theorem bd_69_27 : decode (bn_b 69) 27 = .ok (.iconst 1, 1) := by decide +kernel
theorem bd_69_28 : decode (bn_b 69) 28 = .ok (.isub, 1) := by decide +kernel
theorem bd_69_29 : decode (bn_b 69) 29 = .ok (.putfield 34, 3) := by decide +kernel
theorem bd_69_32 : decode (bn_b 69) 32 = .ok (.aload_n 0, 1) := by decide +kernel
theorem bd_69_33 : decode (bn_b 69) 33 = .ok (.getfield 26, 3) := by decide +kernel
theorem bd_69_36 : decode (bn_b 69) 36 = .ok (.aload_n 0, 1) := by decide +kernel
theorem bd_69_37 : decode (bn_b 69) 37 = .ok (.getfield 30, 3) := by decide +kernel
theorem bd_69_40 : decode (bn_b 69) 40 = .ok (.aload_n 0, 1) := by decide +kernel
theorem bd_69_41 : decode (bn_b 69) 41 = .ok (.getfield 34, 3) := by decide +kernel
theorem bd_69_44 : decode (bn_b 69) 44 = .ok (.iadd, 1) := by decide +kernel
theorem bd_69_45 : decode (bn_b 69) 45 = .ok (.bipush 20, 2) := by decide +kernel
theorem bd_69_47 : decode (bn_b 69) 47 = .ok (.irem, 1) := by decide +kernel
theorem bd_69_48 : decode (bn_b 69) 48 = .ok (.aaload, 1) := by decide +kernel
theorem bd_69_49 : decode (bn_b 69) 49 = .ok (.aload_n 0, 1) := by decide +kernel
theorem bd_69_50 : decode (bn_b 69) 50 = .ok (.getfield 19, 3) := by decide +kernel
theorem bd_69_53 : decode (bn_b 69) 53 = .ok (.invokevirtual 59, 3) := by decide +kernel
theorem bd_69_56 : decode (bn_b 69) 56 = .ok (.aload_n 0, 1) := by decide +kernel
theorem bd_69_57 : decode (bn_b 69) 57 = .ok (.dup, 1) := by decide +kernel
theorem bd_69_58 : decode (bn_b 69) 58 = .ok (.getfield 34, 3) := by decide +kernel
theorem bd_69_61 : decode (bn_b 69) 61 = .ok (.iconst 1, 1) := by decide +kernel
theorem bd_69_62 : decode (bn_b 69) 62 = .ok (.iadd, 1) := by decide +kernel
theorem bd_69_63 : decode (bn_b 69) 63 = .ok (.putfield 34, 3) := by decide +kernel
theorem bd_69_66 : decode (bn_b 69) 66 = .ok (.return_, 1) := by decide +kernel
theorem bd_70_0 : decode (bn_b 70) 0 = .ok (.aload_n 0, 1) := by decide +kernel
theorem bd_70_1 : decode (bn_b 70) 1 = .ok (.iconst 0, 1) := by decide +kernel
theorem bd_70_2 : decode (bn_b 70) 2 = .ok (.putfield 30, 3) := by decide +kernel
theorem bd_70_5 : decode (bn_b 70) 5 = .ok (.aload_n 0, 1) := by decide +kernel
theorem bd_70_6 : decode (bn_b 70) 6 = .ok (.iconst 0, 1) := by decide +kernel
theorem bd_70_7 : decode (bn_b 70) 7 = .ok (.putfield 34, 3) := by decide +kernel
theorem bd_70_10 : decode (bn_b 70) 10 = .ok (.return_, 1) := by decide +kernel
theorem bd_71_0 : decode (bn_b 71) 0 = .ok (.aload_n 0, 1) := by decide +kernel
theorem bd_71_1 : decode (bn_b 71) 1 = .ok (.getfield 19, 3) := by decide +kernel
theorem bd_71_4 : decode (bn_b 71) 4 = .ok (.invokevirtual 135, 3) := by decide +kernel
theorem bd_71_7 : decode (bn_b 71) 7 = .ok (.ifCond .ne 5, 3) := by decide +kernel
theorem bd_71_10 : decode (bn_b 71) 10 = .ok (.iconst 0, 1) := by decide +kernel
theorem bd_71_11 : decode (bn_b 71) 11 = .ok (.ireturn, 1) := by decide +kernel
theorem bd_71_12 : decode (bn_b 71) 12 = .ok (.aload_n 0, 1) := by decide +kernel
theorem bd_71_13 : decode (bn_b 71) 13 = .ok (.getfield 23, 3) := by decide +kernel
theorem bd_71_16 : decode (bn_b 71) 16 = .ok (.aload_n 0, 1) := by decide +kernel
theorem bd_71_17 : decode (bn_b 71) 17 = .ok (.getfield 19, 3) := by decide +kernel
theorem bd_71_20 : decode (bn_b 71) 20 = .ok (.invokevirtual 59, 3) := by decide +kernel
theorem bd_71_23 : decode (bn_b 71) 23 = .ok (.iconst 1, 1) := by decide +kernel
theorem bd_71_24 : decode (bn_b 71) 24 = .ok (.istore_n 1, 1) := by decide +kernel
theorem bd_71_25 : decode (bn_b 71) 25 = .ok (.iload_n 1, 1) := by decide +kernel
theorem bd_71_26 : decode (bn_b 71) 26 = .ok (.sipush 200, 3) := by decide +kernel
theorem bd_71_29 : decode (bn_b 71) 29 = .ok (.if_icmp .gt 28, 3) := by decide +kernel
theorem bd_71_32 : decode (bn_b 71) 32 = .ok (.aload_n 0, 1) := by decide +kernel
theorem bd_71_33 : decode (bn_b 71) 33 = .ok (.getfield 23, 3) := by decide +kernel
theorem bd_71_36 : decode (bn_b 71) 36 = .ok (.invokevirtual 192, 3) := by decide +kernel
theorem bd_71_39 : decode (bn_b 71) 39 = .ok (.aload_n 0, 1) := by decide +kernel
theorem bd_71_40 : decode (bn_b 71) 40 = .ok (.getfield 23, 3) := by decide +kernel
theorem bd_71_43 : decode (bn_b 71) 43 = .ok (.invokevirtual 131, 3) := by decide +kernel
theorem bd_71_46 : decode (bn_b 71) 46 = .ok (.ifCond .eq 5, 3) := by decide +kernel
theorem bd_71_49 : decode (bn_b 71) 49 = .ok (.iload_n 1, 1) := by decide +kernel
theorem bd_71_50 : decode (bn_b 71) 50 = .ok (.ireturn, 1) := by decide +kernel
theorem bd_71_51 : decode (bn_b 71) 51 = .ok (.iinc 1 1, 3) := by decide +kernel
theorem bd_71_54 : decode (bn_b 71) 54 = .ok (.goto (-29), 3) := by decide +kernel
theorem bd_71_57 : decode (bn_b 71) 57 = .ok (.bipush (-9), 2) := by decide +kernel
theorem bd_71_59 : decode (bn_b 71) 59 = .ok (.ireturn, 1) := by decide +kernel
theorem bd_72_0 : decode (bn_b 72) 0 = .ok (.iload_n 0, 1) := by decide +kernel
theorem bd_72_1 : decode (bn_b 72) 1 = .ok (.bipush 10, 2) := by decide +kernel
theorem bd_72_3 : decode (bn_b 72) 3 = .ok (.idiv, 1) := by decide +kernel
theorem bd_72_4 : decode (bn_b 72) 4 = .ok (.bipush 9, 2) := by decide +kernel
theorem bd_72_6 : decode (bn_b 72) 6 = .ok (.if_icmp .eq 12, 3) := by decide +kernel
theorem bd_72_9 : decode (bn_b 72) 9 = .ok (.iload_n 0, 1) := by decide +kernel
theorem bd_72_10 : decode (bn_b 72) 10 = .ok (.bipush 10, 2) := by decide +kernel
theorem bd_72_12 : decode (bn_b 72) 12 = .ok (.irem, 1) := by decide +kernel
theorem bd_72_13 : decode (bn_b 72) 13 = .ok (.bipush 9, 2) := by decide +kernel
theorem bd_72_15 : decode (bn_b 72) 15 = .ok (.if_icmp .ne 7, 3) := by decide +kernel
theorem bd_72_18 : decode (bn_b 72) 18 = .ok (.iconst 1, 1) := by decide +kernel
theorem bd_72_19 : decode (bn_b 72) 19 = .ok (.goto 4, 3) := by decide +kernel
theorem bd_72_22 : decode (bn_b 72) 22 = .ok (.iconst 0, 1) := by decide +kernel
theorem bd_72_23 : decode (bn_b 72) 23 = .ok (.ireturn, 1) := by decide +kernel
theorem bd_73_0 : decode (bn_b 73) 0 = .ok (.iload_n 0, 1) := by decide +kernel
theorem bd_73_1 : decode (bn_b 73) 1 = .ok (.bipush 10, 2) := by decide +kernel
theorem bd_73_3 : decode (bn_b 73) 3 = .ok (.idiv, 1) := by decide +kernel
theorem bd_73_4 : decode (bn_b 73) 4 = .ok (.bipush 9, 2) := by decide +kernel
theorem bd_73_6 : decode (bn_b 73) 6 = .ok (.if_icmp .ne 10, 3) := by decide +kernel
theorem bd_73_9 : decode (bn_b 73) 9 = .ok (.iload_n 0, 1) := by decide +kernel
theorem bd_73_10 : decode (bn_b 73) 10 = .ok (.bipush 30, 2) := by decide +kernel
theorem bd_73_12 : decode (bn_b 73) 12 = .ok (.isub, 1) := by decide +kernel
theorem bd_73_13 : decode (bn_b 73) 13 = .ok (.goto 6, 3) := by decide +kernel
theorem bd_73_16 : decode (bn_b 73) 16 = .ok (.iload_n 0, 1) := by decide +kernel
theorem bd_73_17 : decode (bn_b 73) 17 = .ok (.iconst 3, 1) := by decide +kernel
theorem bd_73_18 : decode (bn_b 73) 18 = .ok (.isub, 1) := by decide +kernel
theorem bd_73_19 : decode (bn_b 73) 19 = .ok (.ireturn, 1) := by decide +kernel
theorem bd_74_0 : decode (bn_b 74) 0 = .ok (.lload_n 0, 1) := by decide +kernel
theorem bd_74_1 : decode (bn_b 74) 1 = .ok (.lload_n 2, 1) := by decide +kernel
theorem bd_74_2 : decode (bn_b 74) 2 = .ok (.invokestatic 195, 3) := by decide +kernel
theorem bd_74_5 : decode (bn_b 74) 5 = .ok (.lstore 5, 2) := by decide +kernel
theorem bd_74_7 : decode (bn_b 74) 7 = .ok (.lload 5, 2) := by decide +kernel
theorem bd_74_9 : decode (bn_b 74) 9 = .ok (.lconst 0, 1) := by decide +kernel
theorem bd_74_10 : decode (bn_b 74) 10 = .ok (.lcmp, 1) := by decide +kernel
theorem bd_74_11 : decode (bn_b 74) 11 = .ok (.ifCond .ne 7, 3) := by decide +kernel
theorem bd_74_14 : decode (bn_b 74) 14 = .ok (.ldc2_w 199, 3) := by decide +kernel
theorem bd_74_17 : decode (bn_b 74) 17 = .ok (.lreturn, 1) := by decide +kernel
theorem bd_74_18 : decode (bn_b 74) 18 = .ok (.iload 4, 2) := by decide +kernel
theorem bd_74_20 : decode (bn_b 74) 20 = .ok (.ifCond .eq 10, 3) := by decide +kernel
theorem bd_74_23 : decode (bn_b 74) 23 = .ok (.lload_n 0, 1) := by decide +kernel
theorem bd_74_24 : decode (bn_b 74) 24 = .ok (.lload 5, 2) := by decide +kernel
theorem bd_74_26 : decode (bn_b 74) 26 = .ok (.ldiv, 1) := by decide +kernel
theorem bd_74_27 : decode (bn_b 74) 27 = .ok (.goto 7, 3) := by decide +kernel
theorem bd_74_30 : decode (bn_b 74) 30 = .ok (.lload_n 2, 1) := by decide +kernel
theorem bd_74_31 : decode (bn_b 74) 31 = .ok (.lload 5, 2) := by decide +kernel
theorem bd_74_33 : decode (bn_b 74) 33 = .ok (.ldiv, 1) := by decide +kernel
theorem bd_74_34 : decode (bn_b 74) 34 = .ok (.lreturn, 1) := by decide +kernel
theorem bd_75_0 : decode (bn_b 75) 0 = .ok (.iconst 0, 1) := by decide +kernel
theorem bd_75_1 : decode (bn_b 75) 1 = .ok (.istore 4, 2) := by decide +kernel
theorem bd_75_3 : decode (bn_b 75) 3 = .ok (.iload 4, 2) := by decide +kernel
theorem bd_75_5 : decode (bn_b 75) 5 = .ok (.sipush 200, 3) := by decide +kernel
theorem bd_75_8 : decode (bn_b 75) 8 = .ok (.if_icmp .ge 25, 3) := by decide +kernel
theorem bd_75_11 : decode (bn_b 75) 11 = .ok (.lload_n 2, 1) := by decide +kernel
theorem bd_75_12 : decode (bn_b 75) 12 = .ok (.lconst 0, 1) := by decide +kernel
theorem bd_75_13 : decode (bn_b 75) 13 = .ok (.lcmp, 1) := by decide +kernel
theorem bd_75_14 : decode (bn_b 75) 14 = .ok (.ifCond .eq 19, 3) := by decide +kernel
theorem bd_75_17 : decode (bn_b 75) 17 = .ok (.lload_n 0, 1) := by decide +kernel
theorem bd_75_18 : decode (bn_b 75) 18 = .ok (.lload_n 2, 1) := by decide +kernel
theorem bd_75_19 : decode (bn_b 75) 19 = .ok (.lrem, 1) := by decide +kernel
theorem bd_75_20 : decode (bn_b 75) 20 = .ok (.lstore 5, 2) := by decide +kernel
theorem bd_75_22 : decode (bn_b 75) 22 = .ok (.lload_n 2, 1) := by decide +kernel
theorem bd_75_23 : decode (bn_b 75) 23 = .ok (.lstore_n 0, 1) := by decide +kernel
theorem bd_75_24 : decode (bn_b 75) 24 = .ok (.lload 5, 2) := by decide +kernel
theorem bd_75_26 : decode (bn_b 75) 26 = .ok (.lstore_n 2, 1) := by decide +kernel
theorem bd_75_27 : decode (bn_b 75) 27 = .ok (.iinc 4 1, 3) := by decide +kernel
theorem bd_75_30 : decode (bn_b 75) 30 = .ok (.goto (-27), 3) := by decide +kernel
theorem bd_75_33 : decode (bn_b 75) 33 = .ok (.lload_n 0, 1) := by decide +kernel
theorem bd_75_34 : decode (bn_b 75) 34 = .ok (.lreturn, 1) := by decide +kernel
