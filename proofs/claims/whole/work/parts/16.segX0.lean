/-! segments: Siege -/
theorem bs_X0_begin_0 (a0 : Nat) (a1 : Int32) (a2 : Int32) (a3 : Int32) (h : bn_H) : bn_ev 1 0 [some (.ref a0), some (.int a1), some (.int a2), some (.int a3)] [] h = (bn_pf h a0 0 0 (.int a1)).bind (fun h1 => (bn_pf h1 a0 0 1 (.int a2)).bind (fun h2 => (bn_pf h2 a0 0 2 (.int a3)).bind (fun h3 => (bn_pf h3 a0 0 3 (.int 0)).bind (fun h4 => (bn_pf h4 a0 0 5 (.int 0)).bind (fun h5 => (bn_pf h5 a0 0 9 (.int 0)).bind (fun h6 => some (none, h6))))))) := by
  refine Eq.trans (be_aload_n bd_1_0 rfl) ?_
  refine Eq.trans (be_iload_n bd_1_1 rfl) ?_
  refine Eq.trans (be_putI bd_1_2 bf_0_9 rfl rfl) ?_
  refine bn_bd_c fun h1 => ?_
  refine Eq.trans (be_aload_n bd_1_5 rfl) ?_
  refine Eq.trans (be_iload_n bd_1_6 rfl) ?_
  refine Eq.trans (be_putI bd_1_7 bf_0_15 rfl rfl) ?_
  refine bn_bd_c fun h2 => ?_
  refine Eq.trans (be_aload_n bd_1_10 rfl) ?_
  refine Eq.trans (be_iload_n bd_1_11 rfl) ?_
  refine Eq.trans (be_putI bd_1_12 bf_0_18 rfl rfl) ?_
  refine bn_bd_c fun h3 => ?_
  refine Eq.trans (be_aload_n bd_1_15 rfl) ?_
  refine Eq.trans (be_iconst (v := 0) bd_1_16 (by decide)) ?_
  refine Eq.trans (be_putI bd_1_17 bf_0_21 rfl rfl) ?_
  refine bn_bd_c fun h4 => ?_
  refine Eq.trans (be_aload_n bd_1_20 rfl) ?_
  refine Eq.trans (be_iconst (v := 0) bd_1_21 (by decide)) ?_
  refine Eq.trans (be_putI bd_1_22 bf_0_28 rfl rfl) ?_
  refine bn_bd_c fun h5 => ?_
  refine Eq.trans (be_aload_n bd_1_25 rfl) ?_
  refine Eq.trans (be_iconst (v := 0) bd_1_26 (by decide)) ?_
  refine Eq.trans (be_putI bd_1_27 bf_0_42 rfl rfl) ?_
  refine bn_bd_c fun h6 => ?_
  exact be_return bd_1_30 rfl
theorem bs_X0_addPerson_0 (a0 : Nat) (a1 : Int32) (h : bn_H) : bn_ev 2 0 [some (.ref a0), some (.int a1)] [] h = bn_gI h a0 0 5 (fun x1 => if 5 ≤ x1 then (some (none, h)) else (bn_gR h a0 0 6 (fun p2 => bn_gI h a0 0 5 (fun x3 => (bn_sd h p2 0 x3 a1).bind (fun h4 => bn_gR h4 a0 0 7 (fun p5 => bn_gI h4 a0 0 5 (fun x6 => (bn_sd h4 p5 1 x6 (vp_nar .boolean 0)).bind (fun h7 => bn_gR h7 a0 0 8 (fun p8 => bn_gI h7 a0 0 5 (fun x9 => (bn_sd h7 p8 0 x9 0).bind (fun h10 => bn_gI h10 a0 0 5 (fun x11 => (bn_pf h10 a0 0 5 (.int (x11 + 1))).bind (fun h12 => some (none, h12)))))))))))))) := by
  refine Eq.trans (be_aload_n bd_2_0 rfl) ?_
  refine Eq.trans (be_getI bd_2_1 bf_0_28 rfl) ?_
  refine bn_gI_c fun x1 => ?_
  refine Eq.trans (be_iconst (v := 5) bd_2_4 (by decide)) ?_
  refine Eq.trans (be_icmp_ge (t := 48) bd_2_5 rfl) ?_
  refine bn_if_c ?_ ?_
  · exact be_return bd_2_48 rfl
  · refine Eq.trans (be_aload_n bd_2_8 rfl) ?_
    refine Eq.trans (be_getR bd_2_9 bf_0_31 rfl (Or.inl ⟨_, rfl⟩)) ?_
    refine bn_gR_c fun p2 => ?_
    refine Eq.trans (be_aload_n bd_2_12 rfl) ?_
    refine Eq.trans (be_getI bd_2_13 bf_0_28 rfl) ?_
    refine bn_gI_c fun x3 => ?_
    refine Eq.trans (be_iload_n bd_2_16 rfl) ?_
    refine Eq.trans (be_iastore bd_2_17) ?_
    refine bn_bd_c fun h4 => ?_
    refine Eq.trans (be_aload_n bd_2_18 rfl) ?_
    refine Eq.trans (be_getR bd_2_19 bf_0_35 rfl (Or.inl ⟨_, rfl⟩)) ?_
    refine bn_gR_c fun p5 => ?_
    refine Eq.trans (be_aload_n bd_2_22 rfl) ?_
    refine Eq.trans (be_getI bd_2_23 bf_0_28 rfl) ?_
    refine bn_gI_c fun x6 => ?_
    refine Eq.trans (be_iconst (v := 0) bd_2_26 (by decide)) ?_
    refine Eq.trans (be_bastore bd_2_27) ?_
    refine bn_bd_c fun h7 => ?_
    refine Eq.trans (be_aload_n bd_2_28 rfl) ?_
    refine Eq.trans (be_getR bd_2_29 bf_0_39 rfl (Or.inl ⟨_, rfl⟩)) ?_
    refine bn_gR_c fun p8 => ?_
    refine Eq.trans (be_aload_n bd_2_32 rfl) ?_
    refine Eq.trans (be_getI bd_2_33 bf_0_28 rfl) ?_
    refine bn_gI_c fun x9 => ?_
    refine Eq.trans (be_iconst (v := 0) bd_2_36 (by decide)) ?_
    refine Eq.trans (be_iastore bd_2_37) ?_
    refine bn_bd_c fun h10 => ?_
    refine Eq.trans (be_aload_n bd_2_38 rfl) ?_
    refine Eq.trans (be_dup bd_2_39 rfl) ?_
    refine Eq.trans (be_getI bd_2_40 bf_0_28 rfl) ?_
    refine bn_gI_c fun x11 => ?_
    refine Eq.trans (be_iconst (v := 1) bd_2_43 (by decide)) ?_
    refine Eq.trans (be_iadd bd_2_44) ?_
    refine Eq.trans (be_putI bd_2_45 bf_0_28 rfl rfl) ?_
    refine bn_bd_c fun h12 => ?_
    exact be_return bd_2_48 rfl
theorem bs_X0_addLoaf_0 (a0 : Nat) (a1 : Int32) (a2 : Int32) (a3 : Int32) (h : bn_H) : bn_ev 3 0 [some (.ref a0), some (.int a1), some (.int a2), some (.int a3)] [] h = bn_gI h a0 0 9 (fun x1 => if 10 ≤ x1 then (some (none, h)) else (bn_gR h a0 0 10 (fun p2 => bn_gI h a0 0 9 (fun x3 => (bn_sd h p2 0 x3 a1).bind (fun h4 => bn_gR h4 a0 0 11 (fun p5 => bn_gI h4 a0 0 9 (fun x6 => (bn_sd h4 p5 0 x6 a2).bind (fun h7 => bn_gR h7 a0 0 12 (fun p8 => bn_gI h7 a0 0 9 (fun x9 => (bn_sd h7 p8 0 x9 a3).bind (fun h10 => bn_gR h10 a0 0 13 (fun p11 => bn_gI h10 a0 0 9 (fun x12 => (bn_sd h10 p11 0 x12 (-9)).bind (fun h13 => bn_gR h13 a0 0 14 (fun p14 => bn_gI h13 a0 0 9 (fun x15 => (bn_sd h13 p14 0 x15 (-9)).bind (fun h16 => bn_gI h16 a0 0 9 (fun x17 => (bn_pf h16 a0 0 9 (.int (x17 + 1))).bind (fun h18 => some (none, h18)))))))))))))))))))) := by
  refine Eq.trans (be_aload_n bd_3_0 rfl) ?_
  refine Eq.trans (be_getI bd_3_1 bf_0_42 rfl) ?_
  refine bn_gI_c fun x1 => ?_
  refine Eq.trans (be_bipush (v := 10) bd_3_4 (by decide)) ?_
  refine Eq.trans (be_icmp_ge (t := 71) bd_3_6 rfl) ?_
  refine bn_if_c ?_ ?_
  · exact be_return bd_3_71 rfl
  · refine Eq.trans (be_aload_n bd_3_9 rfl) ?_
    refine Eq.trans (be_getR bd_3_10 bf_0_45 rfl (Or.inl ⟨_, rfl⟩)) ?_
    refine bn_gR_c fun p2 => ?_
    refine Eq.trans (be_aload_n bd_3_13 rfl) ?_
    refine Eq.trans (be_getI bd_3_14 bf_0_42 rfl) ?_
    refine bn_gI_c fun x3 => ?_
    refine Eq.trans (be_iload_n bd_3_17 rfl) ?_
    refine Eq.trans (be_iastore bd_3_18) ?_
    refine bn_bd_c fun h4 => ?_
    refine Eq.trans (be_aload_n bd_3_19 rfl) ?_
    refine Eq.trans (be_getR bd_3_20 bf_0_48 rfl (Or.inl ⟨_, rfl⟩)) ?_
    refine bn_gR_c fun p5 => ?_
    refine Eq.trans (be_aload_n bd_3_23 rfl) ?_
    refine Eq.trans (be_getI bd_3_24 bf_0_42 rfl) ?_
    refine bn_gI_c fun x6 => ?_
    refine Eq.trans (be_iload_n bd_3_27 rfl) ?_
    refine Eq.trans (be_iastore bd_3_28) ?_
    refine bn_bd_c fun h7 => ?_
    refine Eq.trans (be_aload_n bd_3_29 rfl) ?_
    refine Eq.trans (be_getR bd_3_30 bf_0_51 rfl (Or.inl ⟨_, rfl⟩)) ?_
    refine bn_gR_c fun p8 => ?_
    refine Eq.trans (be_aload_n bd_3_33 rfl) ?_
    refine Eq.trans (be_getI bd_3_34 bf_0_42 rfl) ?_
    refine bn_gI_c fun x9 => ?_
    refine Eq.trans (be_iload_n bd_3_37 rfl) ?_
    refine Eq.trans (be_iastore bd_3_38) ?_
    refine bn_bd_c fun h10 => ?_
    refine Eq.trans (be_aload_n bd_3_39 rfl) ?_
    refine Eq.trans (be_getR bd_3_40 bf_0_54 rfl (Or.inl ⟨_, rfl⟩)) ?_
    refine bn_gR_c fun p11 => ?_
    refine Eq.trans (be_aload_n bd_3_43 rfl) ?_
    refine Eq.trans (be_getI bd_3_44 bf_0_42 rfl) ?_
    refine bn_gI_c fun x12 => ?_
    refine Eq.trans (be_bipush (v := (-9)) bd_3_47 (by decide)) ?_
    refine Eq.trans (be_iastore bd_3_49) ?_
    refine bn_bd_c fun h13 => ?_
    refine Eq.trans (be_aload_n bd_3_50 rfl) ?_
    refine Eq.trans (be_getR bd_3_51 bf_0_57 rfl (Or.inl ⟨_, rfl⟩)) ?_
    refine bn_gR_c fun p14 => ?_
    refine Eq.trans (be_aload_n bd_3_54 rfl) ?_
    refine Eq.trans (be_getI bd_3_55 bf_0_42 rfl) ?_
    refine bn_gI_c fun x15 => ?_
    refine Eq.trans (be_bipush (v := (-9)) bd_3_58 (by decide)) ?_
    refine Eq.trans (be_iastore bd_3_60) ?_
    refine bn_bd_c fun h16 => ?_
    refine Eq.trans (be_aload_n bd_3_61 rfl) ?_
    refine Eq.trans (be_dup bd_3_62 rfl) ?_
    refine Eq.trans (be_getI bd_3_63 bf_0_42 rfl) ?_
    refine bn_gI_c fun x17 => ?_
    refine Eq.trans (be_iconst (v := 1) bd_3_66 (by decide)) ?_
    refine Eq.trans (be_iadd bd_3_67) ?_
    refine Eq.trans (be_putI bd_3_68 bf_0_42 rfl rfl) ?_
    refine bn_bd_c fun h18 => ?_
    exact be_return bd_3_71 rfl
theorem bs_X0_becomes_0 (a0 : Nat) (a1 : Nat) (h : bn_H) : bn_ev 4 0 [some (.ref a0), some (.ref a1), none] [] h = bn_gI h a1 0 0 (fun x1 => (bn_pf h a0 0 0 (.int x1)).bind (fun h2 => bn_gI h2 a1 0 1 (fun x3 => (bn_pf h2 a0 0 1 (.int x3)).bind (fun h4 => bn_gI h4 a1 0 2 (fun x5 => (bn_pf h4 a0 0 2 (.int x5)).bind (fun h6 => bn_gI h6 a1 0 3 (fun x7 => (bn_pf h6 a0 0 3 (.int x7)).bind (fun h8 => bn_gJ h8 a1 0 4 (fun y9 => (bn_pf h8 a0 0 4 (.long y9)).bind (fun h10 => bn_gI h10 a1 0 5 (fun x11 => (bn_pf h10 a0 0 5 (.int x11)).bind (fun h12 => bn_gR h12 a1 0 6 (fun p13 => bn_gR h12 a0 0 6 (fun p14 => (bn_cp h12 p13 0 p14 0 5).bind (fun h15 => bn_gR h15 a1 0 8 (fun p16 => bn_gR h15 a0 0 8 (fun p17 => (bn_cp h15 p16 0 p17 0 5).bind (fun h18 => bn_ev 4 78 [some (.ref a0), some (.ref a1), some (.int 0)] [] h18)))))))))))))))))) := by
  refine Eq.trans (be_aload_n bd_4_0 rfl) ?_
  refine Eq.trans (be_aload_n bd_4_1 rfl) ?_
  refine Eq.trans (be_getI bd_4_2 bf_0_9 rfl) ?_
  refine bn_gI_c fun x1 => ?_
  refine Eq.trans (be_putI bd_4_5 bf_0_9 rfl rfl) ?_
  refine bn_bd_c fun h2 => ?_
  refine Eq.trans (be_aload_n bd_4_8 rfl) ?_
  refine Eq.trans (be_aload_n bd_4_9 rfl) ?_
  refine Eq.trans (be_getI bd_4_10 bf_0_15 rfl) ?_
  refine bn_gI_c fun x3 => ?_
  refine Eq.trans (be_putI bd_4_13 bf_0_15 rfl rfl) ?_
  refine bn_bd_c fun h4 => ?_
  refine Eq.trans (be_aload_n bd_4_16 rfl) ?_
  refine Eq.trans (be_aload_n bd_4_17 rfl) ?_
  refine Eq.trans (be_getI bd_4_18 bf_0_18 rfl) ?_
  refine bn_gI_c fun x5 => ?_
  refine Eq.trans (be_putI bd_4_21 bf_0_18 rfl rfl) ?_
  refine bn_bd_c fun h6 => ?_
  refine Eq.trans (be_aload_n bd_4_24 rfl) ?_
  refine Eq.trans (be_aload_n bd_4_25 rfl) ?_
  refine Eq.trans (be_getI bd_4_26 bf_0_21 rfl) ?_
  refine bn_gI_c fun x7 => ?_
  refine Eq.trans (be_putI bd_4_29 bf_0_21 rfl rfl) ?_
  refine bn_bd_c fun h8 => ?_
  refine Eq.trans (be_aload_n bd_4_32 rfl) ?_
  refine Eq.trans (be_aload_n bd_4_33 rfl) ?_
  refine Eq.trans (be_getJ bd_4_34 bf_0_24 rfl) ?_
  refine bn_gJ_c fun y9 => ?_
  refine Eq.trans (be_putJ bd_4_37 bf_0_24 rfl rfl) ?_
  refine bn_bd_c fun h10 => ?_
  refine Eq.trans (be_aload_n bd_4_40 rfl) ?_
  refine Eq.trans (be_aload_n bd_4_41 rfl) ?_
  refine Eq.trans (be_getI bd_4_42 bf_0_28 rfl) ?_
  refine bn_gI_c fun x11 => ?_
  refine Eq.trans (be_putI bd_4_45 bf_0_28 rfl rfl) ?_
  refine bn_bd_c fun h12 => ?_
  refine Eq.trans (be_aload_n bd_4_48 rfl) ?_
  refine Eq.trans (be_getR bd_4_49 bf_0_31 rfl (Or.inl ⟨_, rfl⟩)) ?_
  refine bn_gR_c fun p13 => ?_
  refine Eq.trans (be_iconst (v := 0) bd_4_52 (by decide)) ?_
  refine Eq.trans (be_aload_n bd_4_53 rfl) ?_
  refine Eq.trans (be_getR bd_4_54 bf_0_31 rfl (Or.inl ⟨_, rfl⟩)) ?_
  refine bn_gR_c fun p14 => ?_
  refine Eq.trans (be_iconst (v := 0) bd_4_57 (by decide)) ?_
  refine Eq.trans (be_iconst (v := 5) bd_4_58 (by decide)) ?_
  refine Eq.trans (be_copy bd_4_59 bm_0_60 ⟨Nat.le_of_ble_eq_true rfl, Nat.le_of_ble_eq_true rfl, Nat.le_of_ble_eq_true rfl⟩) ?_
  refine bn_bd_c fun h15 => ?_
  refine Eq.trans (be_aload_n bd_4_62 rfl) ?_
  refine Eq.trans (be_getR bd_4_63 bf_0_39 rfl (Or.inl ⟨_, rfl⟩)) ?_
  refine bn_gR_c fun p16 => ?_
  refine Eq.trans (be_iconst (v := 0) bd_4_66 (by decide)) ?_
  refine Eq.trans (be_aload_n bd_4_67 rfl) ?_
  refine Eq.trans (be_getR bd_4_68 bf_0_39 rfl (Or.inl ⟨_, rfl⟩)) ?_
  refine bn_gR_c fun p17 => ?_
  refine Eq.trans (be_iconst (v := 0) bd_4_71 (by decide)) ?_
  refine Eq.trans (be_iconst (v := 5) bd_4_72 (by decide)) ?_
  refine Eq.trans (be_copy bd_4_73 bm_0_60 ⟨Nat.le_of_ble_eq_true rfl, Nat.le_of_ble_eq_true rfl, Nat.le_of_ble_eq_true rfl⟩) ?_
  refine bn_bd_c fun h18 => ?_
  refine Eq.trans (be_iconst (v := 0) bd_4_76 (by decide)) ?_
  refine Eq.trans (be_istore_n (ls' := [some (.ref a0), some (.ref a1), some (.int 0)]) bd_4_77 (Nat.le_of_ble_eq_true rfl) rfl) ?_
  rfl
theorem bs_X0_becomes_78 (a0 : Nat) (a1 : Nat) (a2 : Int32) (h : bn_H) : bn_ev 4 78 [some (.ref a0), some (.ref a1), some (.int a2)] [] h = if 5 ≤ a2 then (bn_gI h a1 0 9 (fun x1 => (bn_pf h a0 0 9 (.int x1)).bind (fun h2 => bn_gR h2 a1 0 10 (fun p3 => bn_gR h2 a0 0 10 (fun p4 => (bn_cp h2 p3 0 p4 0 10).bind (fun h5 => bn_gR h5 a1 0 11 (fun p6 => bn_gR h5 a0 0 11 (fun p7 => (bn_cp h5 p6 0 p7 0 10).bind (fun h8 => bn_gR h8 a1 0 12 (fun p9 => bn_gR h8 a0 0 12 (fun p10 => (bn_cp h8 p9 0 p10 0 10).bind (fun h11 => bn_gR h11 a1 0 13 (fun p12 => bn_gR h11 a0 0 13 (fun p13 => (bn_cp h11 p12 0 p13 0 10).bind (fun h14 => bn_gR h14 a1 0 14 (fun p15 => bn_gR h14 a0 0 14 (fun p16 => (bn_cp h14 p15 0 p16 0 10).bind (fun h17 => some (none, h17))))))))))))))))))) else (bn_gR h a0 0 7 (fun p18 => bn_gR h a1 0 7 (fun p19 => (bn_ld h p19 1 a2).bind (fun x20 => (bn_sd h p18 1 a2 (vp_nar .boolean x20)).bind (fun h21 => bn_ev 4 78 [some (.ref a0), some (.ref a1), some (.int (a2 + 1))] [] h21))))) := by
  refine Eq.trans (be_iload_n bd_4_78 rfl) ?_
  refine Eq.trans (be_iconst (v := 5) bd_4_79 (by decide)) ?_
  refine Eq.trans (be_icmp_ge (t := 101) bd_4_80 rfl) ?_
  refine bn_if_c ?_ ?_
  · refine Eq.trans (be_aload_n bd_4_101 rfl) ?_
    refine Eq.trans (be_aload_n bd_4_102 rfl) ?_
    refine Eq.trans (be_getI bd_4_103 bf_0_42 rfl) ?_
    refine bn_gI_c fun x1 => ?_
    refine Eq.trans (be_putI bd_4_106 bf_0_42 rfl rfl) ?_
    refine bn_bd_c fun h2 => ?_
    refine Eq.trans (be_aload_n bd_4_109 rfl) ?_
    refine Eq.trans (be_getR bd_4_110 bf_0_45 rfl (Or.inl ⟨_, rfl⟩)) ?_
    refine bn_gR_c fun p3 => ?_
    refine Eq.trans (be_iconst (v := 0) bd_4_113 (by decide)) ?_
    refine Eq.trans (be_aload_n bd_4_114 rfl) ?_
    refine Eq.trans (be_getR bd_4_115 bf_0_45 rfl (Or.inl ⟨_, rfl⟩)) ?_
    refine bn_gR_c fun p4 => ?_
    refine Eq.trans (be_iconst (v := 0) bd_4_118 (by decide)) ?_
    refine Eq.trans (be_bipush (v := 10) bd_4_119 (by decide)) ?_
    refine Eq.trans (be_copy bd_4_121 bm_0_60 ⟨Nat.le_of_ble_eq_true rfl, Nat.le_of_ble_eq_true rfl, Nat.le_of_ble_eq_true rfl⟩) ?_
    refine bn_bd_c fun h5 => ?_
    refine Eq.trans (be_aload_n bd_4_124 rfl) ?_
    refine Eq.trans (be_getR bd_4_125 bf_0_48 rfl (Or.inl ⟨_, rfl⟩)) ?_
    refine bn_gR_c fun p6 => ?_
    refine Eq.trans (be_iconst (v := 0) bd_4_128 (by decide)) ?_
    refine Eq.trans (be_aload_n bd_4_129 rfl) ?_
    refine Eq.trans (be_getR bd_4_130 bf_0_48 rfl (Or.inl ⟨_, rfl⟩)) ?_
    refine bn_gR_c fun p7 => ?_
    refine Eq.trans (be_iconst (v := 0) bd_4_133 (by decide)) ?_
    refine Eq.trans (be_bipush (v := 10) bd_4_134 (by decide)) ?_
    refine Eq.trans (be_copy bd_4_136 bm_0_60 ⟨Nat.le_of_ble_eq_true rfl, Nat.le_of_ble_eq_true rfl, Nat.le_of_ble_eq_true rfl⟩) ?_
    refine bn_bd_c fun h8 => ?_
    refine Eq.trans (be_aload_n bd_4_139 rfl) ?_
    refine Eq.trans (be_getR bd_4_140 bf_0_51 rfl (Or.inl ⟨_, rfl⟩)) ?_
    refine bn_gR_c fun p9 => ?_
    refine Eq.trans (be_iconst (v := 0) bd_4_143 (by decide)) ?_
    refine Eq.trans (be_aload_n bd_4_144 rfl) ?_
    refine Eq.trans (be_getR bd_4_145 bf_0_51 rfl (Or.inl ⟨_, rfl⟩)) ?_
    refine bn_gR_c fun p10 => ?_
    refine Eq.trans (be_iconst (v := 0) bd_4_148 (by decide)) ?_
    refine Eq.trans (be_bipush (v := 10) bd_4_149 (by decide)) ?_
    refine Eq.trans (be_copy bd_4_151 bm_0_60 ⟨Nat.le_of_ble_eq_true rfl, Nat.le_of_ble_eq_true rfl, Nat.le_of_ble_eq_true rfl⟩) ?_
    refine bn_bd_c fun h11 => ?_
    refine Eq.trans (be_aload_n bd_4_154 rfl) ?_
    refine Eq.trans (be_getR bd_4_155 bf_0_54 rfl (Or.inl ⟨_, rfl⟩)) ?_
    refine bn_gR_c fun p12 => ?_
    refine Eq.trans (be_iconst (v := 0) bd_4_158 (by decide)) ?_
    refine Eq.trans (be_aload_n bd_4_159 rfl) ?_
    refine Eq.trans (be_getR bd_4_160 bf_0_54 rfl (Or.inl ⟨_, rfl⟩)) ?_
    refine bn_gR_c fun p13 => ?_
    refine Eq.trans (be_iconst (v := 0) bd_4_163 (by decide)) ?_
    refine Eq.trans (be_bipush (v := 10) bd_4_164 (by decide)) ?_
    refine Eq.trans (be_copy bd_4_166 bm_0_60 ⟨Nat.le_of_ble_eq_true rfl, Nat.le_of_ble_eq_true rfl, Nat.le_of_ble_eq_true rfl⟩) ?_
    refine bn_bd_c fun h14 => ?_
    refine Eq.trans (be_aload_n bd_4_169 rfl) ?_
    refine Eq.trans (be_getR bd_4_170 bf_0_57 rfl (Or.inl ⟨_, rfl⟩)) ?_
    refine bn_gR_c fun p15 => ?_
    refine Eq.trans (be_iconst (v := 0) bd_4_173 (by decide)) ?_
    refine Eq.trans (be_aload_n bd_4_174 rfl) ?_
    refine Eq.trans (be_getR bd_4_175 bf_0_57 rfl (Or.inl ⟨_, rfl⟩)) ?_
    refine bn_gR_c fun p16 => ?_
    refine Eq.trans (be_iconst (v := 0) bd_4_178 (by decide)) ?_
    refine Eq.trans (be_bipush (v := 10) bd_4_179 (by decide)) ?_
    refine Eq.trans (be_copy bd_4_181 bm_0_60 ⟨Nat.le_of_ble_eq_true rfl, Nat.le_of_ble_eq_true rfl, Nat.le_of_ble_eq_true rfl⟩) ?_
    refine bn_bd_c fun h17 => ?_
    exact be_return bd_4_184 rfl
  · refine Eq.trans (be_aload_n bd_4_83 rfl) ?_
    refine Eq.trans (be_getR bd_4_84 bf_0_35 rfl (Or.inl ⟨_, rfl⟩)) ?_
    refine bn_gR_c fun p18 => ?_
    refine Eq.trans (be_iload_n bd_4_87 rfl) ?_
    refine Eq.trans (be_aload_n bd_4_88 rfl) ?_
    refine Eq.trans (be_getR bd_4_89 bf_0_35 rfl (Or.inl ⟨_, rfl⟩)) ?_
    refine bn_gR_c fun p19 => ?_
    refine Eq.trans (be_iload_n bd_4_92 rfl) ?_
    refine Eq.trans (be_baload bd_4_93) ?_
    refine bn_bd_c fun x20 => ?_
    refine Eq.trans (be_bastore bd_4_94) ?_
    refine bn_bd_c fun h21 => ?_
    refine Eq.trans (be_iinc (v := 1) (ls' := [some (.ref a0), some (.ref a1), some (.int (a2 + 1))]) bd_4_95 rfl (by decide) (Nat.le_of_ble_eq_true rfl) rfl) ?_
    refine Eq.trans (be_goto (t := 78) bd_4_98 rfl) ?_
    rfl
theorem bs_X0_hasPerson_0 (a0 : Nat) (a1 : Int32) (h : bn_H) : bn_ev 5 0 [some (.ref a0), some (.int a1)] [] h = if a1 < 0 then (some (some (.int 0), h)) else (bn_gI h a0 0 5 (fun x1 => if x1 ≤ a1 then (some (some (.int 0), h)) else (some (some (.int 1), h)))) := by
  refine Eq.trans (be_iload_n bd_5_0 rfl) ?_
  refine Eq.trans (be_if_lt (t := 16) bd_5_1 rfl) ?_
  refine bn_if_c ?_ ?_
  · refine Eq.trans (be_iconst (v := 0) bd_5_16 (by decide)) ?_
    exact be_z0 bd_5_17 rfl (Or.inl rfl)
  · refine Eq.trans (be_iload_n bd_5_4 rfl) ?_
    refine Eq.trans (be_aload_n bd_5_5 rfl) ?_
    refine Eq.trans (be_getI bd_5_6 bf_0_28 rfl) ?_
    refine bn_gI_c fun x1 => ?_
    refine Eq.trans (be_icmp_ge (t := 16) bd_5_9 rfl) ?_
    refine bn_if_c ?_ ?_
    · refine Eq.trans (be_iconst (v := 0) bd_5_16 (by decide)) ?_
      exact be_z0 bd_5_17 rfl (Or.inl rfl)
    · refine Eq.trans (be_iconst (v := 1) bd_5_12 (by decide)) ?_
      refine Eq.trans (be_goto (t := 17) bd_5_13 rfl) ?_
      exact be_z0 bd_5_17 rfl (Or.inr rfl)
theorem bs_X0_hasLoaf_0 (a0 : Nat) (a1 : Int32) (h : bn_H) : bn_ev 6 0 [some (.ref a0), some (.int a1)] [] h = if a1 < 0 then (some (some (.int 0), h)) else (bn_gI h a0 0 9 (fun x1 => if x1 ≤ a1 then (some (some (.int 0), h)) else (some (some (.int 1), h)))) := by
  refine Eq.trans (be_iload_n bd_6_0 rfl) ?_
  refine Eq.trans (be_if_lt (t := 16) bd_6_1 rfl) ?_
  refine bn_if_c ?_ ?_
  · refine Eq.trans (be_iconst (v := 0) bd_6_16 (by decide)) ?_
    exact be_z0 bd_6_17 rfl (Or.inl rfl)
  · refine Eq.trans (be_iload_n bd_6_4 rfl) ?_
    refine Eq.trans (be_aload_n bd_6_5 rfl) ?_
    refine Eq.trans (be_getI bd_6_6 bf_0_42 rfl) ?_
    refine bn_gI_c fun x1 => ?_
    refine Eq.trans (be_icmp_ge (t := 16) bd_6_9 rfl) ?_
    refine bn_if_c ?_ ?_
    · refine Eq.trans (be_iconst (v := 0) bd_6_16 (by decide)) ?_
      exact be_z0 bd_6_17 rfl (Or.inl rfl)
    · refine Eq.trans (be_iconst (v := 1) bd_6_12 (by decide)) ?_
      refine Eq.trans (be_goto (t := 17) bd_6_13 rfl) ?_
      exact be_z0 bd_6_17 rfl (Or.inr rfl)
theorem bs_X0_isAlive_0 (a0 : Nat) (a1 : Int32) (h : bn_H) : bn_ev 7 0 [some (.ref a0), some (.int a1)] [] h = bn_gR h a0 0 6 (fun p1 => (bn_ld h p1 0 a1).bind (fun x2 => bn_gI h a0 0 1 (fun x3 => some (some (.int (if x3 < x2 then 0 else 1)), h)))) := by
  refine Eq.trans (be_aload_n bd_7_0 rfl) ?_
  refine Eq.trans (be_getR bd_7_1 bf_0_31 rfl (Or.inl ⟨_, rfl⟩)) ?_
  refine bn_gR_c fun p1 => ?_
  refine Eq.trans (be_iload_n bd_7_4 rfl) ?_
  refine Eq.trans (be_iaload bd_7_5) ?_
  refine bn_bd_c fun x2 => ?_
  refine Eq.trans (be_aload_n bd_7_6 rfl) ?_
  refine Eq.trans (be_getI bd_7_7 bf_0_15 rfl) ?_
  refine bn_gI_c fun x3 => ?_
  refine Eq.trans (be_icmp_gt (t := 17) bd_7_10 rfl) ?_
  refine Eq.trans (bn_dia (J := 18) (a := 0) (b := 1) (by
      refine Eq.trans (be_iconst (v := 0) bd_7_17 (by decide)) ?_
      rfl) (by
      refine Eq.trans (be_iconst (v := 1) bd_7_13 (by decide)) ?_
      refine Eq.trans (be_goto (t := 18) bd_7_14 rfl) ?_
      rfl)) ?_
  exact be_z0 bd_7_18 rfl (by split <;> simp)
theorem bs_X0_isBad_0 (a0 : Nat) (a1 : Int32) (h : bn_H) : bn_ev 8 0 [some (.ref a0), some (.int a1)] [] h = bn_gR h a0 0 12 (fun p1 => (bn_ld h p1 0 a1).bind (fun x2 => bn_gI h a0 0 2 (fun x3 => some (some (.int (if x2 < x3 then 0 else 1)), h)))) := by
  refine Eq.trans (be_aload_n bd_8_0 rfl) ?_
  refine Eq.trans (be_getR bd_8_1 bf_0_51 rfl (Or.inl ⟨_, rfl⟩)) ?_
  refine bn_gR_c fun p1 => ?_
  refine Eq.trans (be_iload_n bd_8_4 rfl) ?_
  refine Eq.trans (be_iaload bd_8_5) ?_
  refine bn_bd_c fun x2 => ?_
  refine Eq.trans (be_aload_n bd_8_6 rfl) ?_
  refine Eq.trans (be_getI bd_8_7 bf_0_18 rfl) ?_
  refine bn_gI_c fun x3 => ?_
  refine Eq.trans (be_icmp_lt (t := 17) bd_8_10 rfl) ?_
  refine Eq.trans (bn_dia (J := 18) (a := 0) (b := 1) (by
      refine Eq.trans (be_iconst (v := 0) bd_8_17 (by decide)) ?_
      rfl) (by
      refine Eq.trans (be_iconst (v := 1) bd_8_13 (by decide)) ?_
      refine Eq.trans (be_goto (t := 18) bd_8_14 rfl) ?_
      rfl)) ?_
  exact be_z0 bd_8_18 rfl (by split <;> simp)
theorem bs_X0_isHeldByAnyone_0 (a0 : Nat) (a1 : Int32) (h : bn_H) : bn_ev 9 0 [some (.ref a0), some (.int a1)] [] h = bn_gR h a0 0 11 (fun p1 => (bn_ld h p1 0 a1).bind (fun x2 => some (some (.int (if 10 ≤ x2 then 0 else 1)), h))) := by
  refine Eq.trans (be_aload_n bd_9_0 rfl) ?_
  refine Eq.trans (be_getR bd_9_1 bf_0_48 rfl (Or.inl ⟨_, rfl⟩)) ?_
  refine bn_gR_c fun p1 => ?_
  refine Eq.trans (be_iload_n bd_9_4 rfl) ?_
  refine Eq.trans (be_iaload bd_9_5) ?_
  refine bn_bd_c fun x2 => ?_
  refine Eq.trans (be_bipush (v := 10) bd_9_6 (by decide)) ?_
  refine Eq.trans (be_icmp_ge (t := 15) bd_9_8 rfl) ?_
  refine Eq.trans (bn_dia (J := 16) (a := 0) (b := 1) (by
      refine Eq.trans (be_iconst (v := 0) bd_9_15 (by decide)) ?_
      rfl) (by
      refine Eq.trans (be_iconst (v := 1) bd_9_11 (by decide)) ?_
      refine Eq.trans (be_goto (t := 16) bd_9_12 rfl) ?_
      rfl)) ?_
  exact be_z0 bd_9_16 rfl (by split <;> simp)
theorem bs_X0_aliveBits_0 (a0 : Nat) (h : bn_H) : bn_ev 10 0 [some (.ref a0), none, none] [] h = bn_ev 10 4 [some (.ref a0), some (.int 0), some (.int 0)] [] h := by
  refine Eq.trans (be_iconst (v := 0) bd_10_0 (by decide)) ?_
  refine Eq.trans (be_istore_n (ls' := [some (.ref a0), some (.int 0), none]) bd_10_1 (Nat.le_of_ble_eq_true rfl) rfl) ?_
  refine Eq.trans (be_iconst (v := 0) bd_10_2 (by decide)) ?_
  refine Eq.trans (be_istore_n (ls' := [some (.ref a0), some (.int 0), some (.int 0)]) bd_10_3 (Nat.le_of_ble_eq_true rfl) rfl) ?_
  rfl
theorem bs_X0_aliveBits_4 (a0 : Nat) (a1 : Int32) (a2 : Int32) (h : bn_H) : bn_ev 10 4 [some (.ref a0), some (.int a1), some (.int a2)] [] h = bn_gI h a0 0 5 (fun x1 => if x1 ≤ a2 then (some (some (.int a1), h)) else (bn_gd (bn_isC h a0 0) (bn_cI (bn_ev 7 0 [some (.ref a0), some (.int a2)] [] h) (fun x3 h2 => if x3 = 0 then (bn_ev 10 4 [some (.ref a0), some (.int a1), some (.int (a2 + 1))] [] h2) else (bn_ev 10 4 [some (.ref a0), some (.int (a1 ||| (bn_shl 1 a2))), some (.int (a2 + 1))] [] h2))))) := by
  refine Eq.trans (be_iload_n bd_10_4 rfl) ?_
  refine Eq.trans (be_aload_n bd_10_5 rfl) ?_
  refine Eq.trans (be_getI bd_10_6 bf_0_28 rfl) ?_
  refine bn_gI_c fun x1 => ?_
  refine Eq.trans (be_icmp_ge (t := 32) bd_10_9 rfl) ?_
  refine bn_if_c ?_ ?_
  · refine Eq.trans (be_iload_n bd_10_32 rfl) ?_
    exact be_ireturn bd_10_33 rfl
  · refine Eq.trans (be_aload_n bd_10_12 rfl) ?_
    refine Eq.trans (be_iload_n bd_10_13 rfl) ?_
    refine Eq.trans (be_virtI (as := [.int a2]) (rr := []) (en := [some (.ref a0), some (.int a2)]) bd_10_14 bm_0_66 rfl rfl rfl ⟨Nat.le_of_ble_eq_true rfl, Nat.le_of_ble_eq_true rfl, Nat.le_of_ble_eq_true rfl, Nat.le_of_ble_eq_true rfl⟩ (Or.inr rfl)) ?_
    refine bn_gd_c (bn_cI_c fun x3 h2 => ?_)
    refine Eq.trans (be_if_eq (t := 26) bd_10_17 rfl) ?_
    refine bn_if_c ?_ ?_
    · refine Eq.trans (be_iinc (v := 1) (ls' := [some (.ref a0), some (.int a1), some (.int (a2 + 1))]) bd_10_26 rfl (by decide) (Nat.le_of_ble_eq_true rfl) rfl) ?_
      refine Eq.trans (be_goto (t := 4) bd_10_29 rfl) ?_
      rfl
    · refine Eq.trans (be_iload_n bd_10_20 rfl) ?_
      refine Eq.trans (be_iconst (v := 1) bd_10_21 (by decide)) ?_
      refine Eq.trans (be_iload_n bd_10_22 rfl) ?_
      refine Eq.trans (be_ishl bd_10_23) ?_
      refine Eq.trans (be_ior bd_10_24) ?_
      refine Eq.trans (be_istore_n (ls' := [some (.ref a0), some (.int (a1 ||| (bn_shl 1 a2))), some (.int a2)]) bd_10_25 (Nat.le_of_ble_eq_true rfl) rfl) ?_
      refine Eq.trans (be_iinc (v := 1) (ls' := [some (.ref a0), some (.int (a1 ||| (bn_shl 1 a2))), some (.int (a2 + 1))]) bd_10_26 rfl (by decide) (Nat.le_of_ble_eq_true rfl) rfl) ?_
      refine Eq.trans (be_goto (t := 4) bd_10_29 rfl) ?_
      rfl
theorem bs_X0_aliveCount_0 (a0 : Nat) (h : bn_H) : bn_ev 11 0 [some (.ref a0)] [] h = bn_gd (bn_isC h a0 0) (bn_cI (bn_ev 10 0 [some (.ref a0), none, none] [] h) (fun x2 h1 => bn_cI (bn_ev 129 0 [some (.int x2)] [] h1) (fun x4 h3 => some (some (.int x4), h3)))) := by
  refine Eq.trans (be_aload_n bd_11_0 rfl) ?_
  refine Eq.trans (be_virtI (as := []) (rr := []) (en := [some (.ref a0), none, none]) bd_11_1 bm_0_70 rfl rfl rfl ⟨Nat.le_of_ble_eq_true rfl, Nat.le_of_ble_eq_true rfl, Nat.le_of_ble_eq_true rfl, Nat.le_of_ble_eq_true rfl⟩ (Or.inl rfl)) ?_
  refine bn_gd_c (bn_cI_c fun x2 h1 => ?_)
  refine Eq.trans (be_statI (as := [.int x2]) (rr := []) (en := [some (.int x2)]) bd_11_4 bm_0_74 rfl rfl rfl ⟨Nat.le_of_ble_eq_true rfl, Nat.le_of_ble_eq_true rfl, Nat.le_of_ble_eq_true rfl, Nat.le_of_ble_eq_true rfl⟩ (Or.inl rfl)) ?_
  refine bn_cI_c fun x4 h3 => ?_
  exact be_ireturn bd_11_7 rfl
theorem bs_X0_aliveAt_0 (a0 : Nat) (a1 : Int32) (h : bn_H) : bn_ev 12 0 [some (.ref a0), some (.int a1), none, none] [] h = bn_ev 12 4 [some (.ref a0), some (.int a1), some (.int a1), some (.int 0)] [] h := by
  refine Eq.trans (be_iload_n bd_12_0 rfl) ?_
  refine Eq.trans (be_istore_n (ls' := [some (.ref a0), some (.int a1), some (.int a1), none]) bd_12_1 (Nat.le_of_ble_eq_true rfl) rfl) ?_
  refine Eq.trans (be_iconst (v := 0) bd_12_2 (by decide)) ?_
  refine Eq.trans (be_istore_n (ls' := [some (.ref a0), some (.int a1), some (.int a1), some (.int 0)]) bd_12_3 (Nat.le_of_ble_eq_true rfl) rfl) ?_
  rfl
theorem bs_X0_aliveAt_4 (a0 : Nat) (a1 : Int32) (a2 : Int32) (a3 : Int32) (h : bn_H) : bn_ev 12 4 [some (.ref a0), some (.int a1), some (.int a2), some (.int a3)] [] h = bn_gI h a0 0 5 (fun x1 => if x1 ≤ a3 then (some (some (.int (-9)), h)) else (bn_gd (bn_isC h a0 0) (bn_cI (bn_ev 7 0 [some (.ref a0), some (.int a3)] [] h) (fun x3 h2 => if x3 = 0 then (bn_ev 12 4 [some (.ref a0), some (.int a1), some (.int a2), some (.int (a3 + 1))] [] h2) else (if a2 = 0 then (some (some (.int a3), h2)) else (bn_ev 12 4 [some (.ref a0), some (.int a1), some (.int (a2 + (-1))), some (.int (a3 + 1))] [] h2)))))) := by
  refine Eq.trans (be_iload_n bd_12_4 rfl) ?_
  refine Eq.trans (be_aload_n bd_12_5 rfl) ?_
  refine Eq.trans (be_getI bd_12_6 bf_0_28 rfl) ?_
  refine bn_gI_c fun x1 => ?_
  refine Eq.trans (be_icmp_ge (t := 35) bd_12_9 rfl) ?_
  refine bn_if_c ?_ ?_
  · refine Eq.trans (be_bipush (v := (-9)) bd_12_35 (by decide)) ?_
    exact be_ireturn bd_12_37 rfl
  · refine Eq.trans (be_aload_n bd_12_12 rfl) ?_
    refine Eq.trans (be_iload_n bd_12_13 rfl) ?_
    refine Eq.trans (be_virtI (as := [.int a3]) (rr := []) (en := [some (.ref a0), some (.int a3)]) bd_12_14 bm_0_66 rfl rfl rfl ⟨Nat.le_of_ble_eq_true rfl, Nat.le_of_ble_eq_true rfl, Nat.le_of_ble_eq_true rfl, Nat.le_of_ble_eq_true rfl⟩ (Or.inr rfl)) ?_
    refine bn_gd_c (bn_cI_c fun x3 h2 => ?_)
    refine Eq.trans (be_if_eq (t := 29) bd_12_17 rfl) ?_
    refine bn_if_c ?_ ?_
    · refine Eq.trans (be_iinc (v := 1) (ls' := [some (.ref a0), some (.int a1), some (.int a2), some (.int (a3 + 1))]) bd_12_29 rfl (by decide) (Nat.le_of_ble_eq_true rfl) rfl) ?_
      refine Eq.trans (be_goto (t := 4) bd_12_32 rfl) ?_
      rfl
    · refine Eq.trans (be_iload_n bd_12_20 rfl) ?_
      refine Eq.trans (be_if_ne (t := 26) bd_12_21 rfl) ?_
      refine bn_if_c ?_ ?_
      · refine Eq.trans (be_iload_n bd_12_24 rfl) ?_
        exact be_ireturn bd_12_25 rfl
      · refine Eq.trans (be_iinc (v := (-1)) (ls' := [some (.ref a0), some (.int a1), some (.int (a2 + (-1))), some (.int a3)]) bd_12_26 rfl (by decide) (Nat.le_of_ble_eq_true rfl) rfl) ?_
        refine Eq.trans (be_iinc (v := 1) (ls' := [some (.ref a0), some (.int a1), some (.int (a2 + (-1))), some (.int (a3 + 1))]) bd_12_29 rfl (by decide) (Nat.le_of_ble_eq_true rfl) rfl) ?_
        refine Eq.trans (be_goto (t := 4) bd_12_32 rfl) ?_
        rfl
theorem bs_X0_heldBits_0 (a0 : Nat) (a1 : Int32) (h : bn_H) : bn_ev 13 0 [some (.ref a0), some (.int a1), none, none] [] h = bn_ev 13 4 [some (.ref a0), some (.int a1), some (.int 0), some (.int 0)] [] h := by
  refine Eq.trans (be_iconst (v := 0) bd_13_0 (by decide)) ?_
  refine Eq.trans (be_istore_n (ls' := [some (.ref a0), some (.int a1), some (.int 0), none]) bd_13_1 (Nat.le_of_ble_eq_true rfl) rfl) ?_
  refine Eq.trans (be_iconst (v := 0) bd_13_2 (by decide)) ?_
  refine Eq.trans (be_istore_n (ls' := [some (.ref a0), some (.int a1), some (.int 0), some (.int 0)]) bd_13_3 (Nat.le_of_ble_eq_true rfl) rfl) ?_
  rfl
theorem bs_X0_heldBits_4 (a0 : Nat) (a1 : Int32) (a2 : Int32) (a3 : Int32) (h : bn_H) : bn_ev 13 4 [some (.ref a0), some (.int a1), some (.int a2), some (.int a3)] [] h = bn_gI h a0 0 9 (fun x1 => if x1 ≤ a3 then (some (some (.int a2), h)) else (bn_gR h a0 0 11 (fun p2 => (bn_ld h p2 0 a3).bind (fun x3 => if x3 = a1 then (bn_ev 13 4 [some (.ref a0), some (.int a1), some (.int (a2 ||| (bn_shl 1 a3))), some (.int (a3 + 1))] [] h) else (bn_ev 13 4 [some (.ref a0), some (.int a1), some (.int a2), some (.int (a3 + 1))] [] h))))) := by
  refine Eq.trans (be_iload_n bd_13_4 rfl) ?_
  refine Eq.trans (be_aload_n bd_13_5 rfl) ?_
  refine Eq.trans (be_getI bd_13_6 bf_0_42 rfl) ?_
  refine bn_gI_c fun x1 => ?_
  refine Eq.trans (be_icmp_ge (t := 34) bd_13_9 rfl) ?_
  refine bn_if_c ?_ ?_
  · refine Eq.trans (be_iload_n bd_13_34 rfl) ?_
    exact be_ireturn bd_13_35 rfl
  · refine Eq.trans (be_aload_n bd_13_12 rfl) ?_
    refine Eq.trans (be_getR bd_13_13 bf_0_48 rfl (Or.inl ⟨_, rfl⟩)) ?_
    refine bn_gR_c fun p2 => ?_
    refine Eq.trans (be_iload_n bd_13_16 rfl) ?_
    refine Eq.trans (be_iaload bd_13_17) ?_
    refine bn_bd_c fun x3 => ?_
    refine Eq.trans (be_iload_n bd_13_18 rfl) ?_
    refine Eq.trans (be_icmp_ne (t := 28) bd_13_19 rfl) ?_
    refine bn_if_c ?_ ?_
    · refine Eq.trans (be_iload_n bd_13_22 rfl) ?_
      refine Eq.trans (be_iconst (v := 1) bd_13_23 (by decide)) ?_
      refine Eq.trans (be_iload_n bd_13_24 rfl) ?_
      refine Eq.trans (be_ishl bd_13_25) ?_
      refine Eq.trans (be_ior bd_13_26) ?_
      refine Eq.trans (be_istore_n (ls' := [some (.ref a0), some (.int a1), some (.int (a2 ||| (bn_shl 1 a3))), some (.int a3)]) bd_13_27 (Nat.le_of_ble_eq_true rfl) rfl) ?_
      refine Eq.trans (be_iinc (v := 1) (ls' := [some (.ref a0), some (.int a1), some (.int (a2 ||| (bn_shl 1 a3))), some (.int (a3 + 1))]) bd_13_28 rfl (by decide) (Nat.le_of_ble_eq_true rfl) rfl) ?_
      refine Eq.trans (be_goto (t := 4) bd_13_31 rfl) ?_
      rfl
    · refine Eq.trans (be_iinc (v := 1) (ls' := [some (.ref a0), some (.int a1), some (.int a2), some (.int (a3 + 1))]) bd_13_28 rfl (by decide) (Nat.le_of_ble_eq_true rfl) rfl) ?_
      refine Eq.trans (be_goto (t := 4) bd_13_31 rfl) ?_
      rfl
theorem bs_X0_isHeldByOthers_0 (a0 : Nat) (a1 : Int32) (a2 : Int32) (h : bn_H) : bn_ev 14 0 [some (.ref a0), some (.int a1), some (.int a2)] [] h = bn_gd (bn_isC h a0 0) (bn_cI (bn_ev 9 0 [some (.ref a0), some (.int a1)] [] h) (fun x2 h1 => if x2 = 0 then (some (some (.int 0), h1)) else (bn_gR h1 a0 0 11 (fun p3 => (bn_ld h1 p3 0 a1).bind (fun x4 => if x4 = a2 then (some (some (.int 0), h1)) else (some (some (.int 1), h1))))))) := by
  refine Eq.trans (be_aload_n bd_14_0 rfl) ?_
  refine Eq.trans (be_iload_n bd_14_1 rfl) ?_
  refine Eq.trans (be_virtI (as := [.int a1]) (rr := []) (en := [some (.ref a0), some (.int a1)]) bd_14_2 bm_0_80 rfl rfl rfl ⟨Nat.le_of_ble_eq_true rfl, Nat.le_of_ble_eq_true rfl, Nat.le_of_ble_eq_true rfl, Nat.le_of_ble_eq_true rfl⟩ (Or.inr rfl)) ?_
  refine bn_gd_c (bn_cI_c fun x2 h1 => ?_)
  refine Eq.trans (be_if_eq (t := 22) bd_14_5 rfl) ?_
  refine bn_if_c ?_ ?_
  · refine Eq.trans (be_iconst (v := 0) bd_14_22 (by decide)) ?_
    exact be_z0 bd_14_23 rfl (Or.inl rfl)
  · refine Eq.trans (be_aload_n bd_14_8 rfl) ?_
    refine Eq.trans (be_getR bd_14_9 bf_0_48 rfl (Or.inl ⟨_, rfl⟩)) ?_
    refine bn_gR_c fun p3 => ?_
    refine Eq.trans (be_iload_n bd_14_12 rfl) ?_
    refine Eq.trans (be_iaload bd_14_13) ?_
    refine bn_bd_c fun x4 => ?_
    refine Eq.trans (be_iload_n bd_14_14 rfl) ?_
    refine Eq.trans (be_icmp_eq (t := 22) bd_14_15 rfl) ?_
    refine bn_if_c ?_ ?_
    · refine Eq.trans (be_iconst (v := 0) bd_14_22 (by decide)) ?_
      exact be_z0 bd_14_23 rfl (Or.inl rfl)
    · refine Eq.trans (be_iconst (v := 1) bd_14_18 (by decide)) ?_
      refine Eq.trans (be_goto (t := 23) bd_14_19 rfl) ?_
      exact be_z0 bd_14_23 rfl (Or.inr rfl)
theorem bs_X0_heldByOthersCount_0 (a0 : Nat) (a1 : Int32) (h : bn_H) : bn_ev 15 0 [some (.ref a0), some (.int a1), none, none] [] h = bn_ev 15 4 [some (.ref a0), some (.int a1), some (.int 0), some (.int 0)] [] h := by
  refine Eq.trans (be_iconst (v := 0) bd_15_0 (by decide)) ?_
  refine Eq.trans (be_istore_n (ls' := [some (.ref a0), some (.int a1), some (.int 0), none]) bd_15_1 (Nat.le_of_ble_eq_true rfl) rfl) ?_
  refine Eq.trans (be_iconst (v := 0) bd_15_2 (by decide)) ?_
  refine Eq.trans (be_istore_n (ls' := [some (.ref a0), some (.int a1), some (.int 0), some (.int 0)]) bd_15_3 (Nat.le_of_ble_eq_true rfl) rfl) ?_
  rfl
theorem bs_X0_heldByOthersCount_4 (a0 : Nat) (a1 : Int32) (a2 : Int32) (a3 : Int32) (h : bn_H) : bn_ev 15 4 [some (.ref a0), some (.int a1), some (.int a2), some (.int a3)] [] h = bn_gI h a0 0 9 (fun x1 => if x1 ≤ a3 then (some (some (.int a2), h)) else (bn_gd (bn_isC h a0 0) (bn_cI (bn_ev 14 0 [some (.ref a0), some (.int a3), some (.int a1)] [] h) (fun x3 h2 => if x3 = 0 then (bn_ev 15 4 [some (.ref a0), some (.int a1), some (.int a2), some (.int (a3 + 1))] [] h2) else (bn_ev 15 4 [some (.ref a0), some (.int a1), some (.int (a2 + 1)), some (.int (a3 + 1))] [] h2))))) := by
  refine Eq.trans (be_iload_n bd_15_4 rfl) ?_
  refine Eq.trans (be_aload_n bd_15_5 rfl) ?_
  refine Eq.trans (be_getI bd_15_6 bf_0_42 rfl) ?_
  refine bn_gI_c fun x1 => ?_
  refine Eq.trans (be_icmp_ge (t := 30) bd_15_9 rfl) ?_
  refine bn_if_c ?_ ?_
  · refine Eq.trans (be_iload_n bd_15_30 rfl) ?_
    exact be_ireturn bd_15_31 rfl
  · refine Eq.trans (be_aload_n bd_15_12 rfl) ?_
    refine Eq.trans (be_iload_n bd_15_13 rfl) ?_
    refine Eq.trans (be_iload_n bd_15_14 rfl) ?_
    refine Eq.trans (be_virtI (as := [.int a1, .int a3]) (rr := []) (en := [some (.ref a0), some (.int a3), some (.int a1)]) bd_15_15 bm_0_83 rfl rfl rfl ⟨Nat.le_of_ble_eq_true rfl, Nat.le_of_ble_eq_true rfl, Nat.le_of_ble_eq_true rfl, Nat.le_of_ble_eq_true rfl⟩ (Or.inr rfl)) ?_
    refine bn_gd_c (bn_cI_c fun x3 h2 => ?_)
    refine Eq.trans (be_if_eq (t := 24) bd_15_18 rfl) ?_
    refine bn_if_c ?_ ?_
    · refine Eq.trans (be_iinc (v := 1) (ls' := [some (.ref a0), some (.int a1), some (.int a2), some (.int (a3 + 1))]) bd_15_24 rfl (by decide) (Nat.le_of_ble_eq_true rfl) rfl) ?_
      refine Eq.trans (be_goto (t := 4) bd_15_27 rfl) ?_
      rfl
    · refine Eq.trans (be_iinc (v := 1) (ls' := [some (.ref a0), some (.int a1), some (.int (a2 + 1)), some (.int a3)]) bd_15_21 rfl (by decide) (Nat.le_of_ble_eq_true rfl) rfl) ?_
      refine Eq.trans (be_iinc (v := 1) (ls' := [some (.ref a0), some (.int a1), some (.int (a2 + 1)), some (.int (a3 + 1))]) bd_15_24 rfl (by decide) (Nat.le_of_ble_eq_true rfl) rfl) ?_
      refine Eq.trans (be_goto (t := 4) bd_15_27 rfl) ?_
      rfl
theorem bs_X0_heldByOthersAt_0 (a0 : Nat) (a1 : Int32) (a2 : Int32) (h : bn_H) : bn_ev 16 0 [some (.ref a0), some (.int a1), some (.int a2), none, none] [] h = bn_ev 16 5 [some (.ref a0), some (.int a1), some (.int a2), some (.int a2), some (.int 0)] [] h := by
  refine Eq.trans (be_iload_n bd_16_0 rfl) ?_
  refine Eq.trans (be_istore_n (ls' := [some (.ref a0), some (.int a1), some (.int a2), some (.int a2), none]) bd_16_1 (Nat.le_of_ble_eq_true rfl) rfl) ?_
  refine Eq.trans (be_iconst (v := 0) bd_16_2 (by decide)) ?_
  refine Eq.trans (be_istore (ls' := [some (.ref a0), some (.int a1), some (.int a2), some (.int a2), some (.int 0)]) bd_16_3 (Nat.le_of_ble_eq_true rfl) rfl) ?_
  rfl
theorem bs_X0_heldByOthersAt_5 (a0 : Nat) (a1 : Int32) (a2 : Int32) (a3 : Int32) (a4 : Int32) (h : bn_H) : bn_ev 16 5 [some (.ref a0), some (.int a1), some (.int a2), some (.int a3), some (.int a4)] [] h = bn_gI h a0 0 9 (fun x1 => if x1 ≤ a4 then (some (some (.int (-9)), h)) else (bn_gd (bn_isC h a0 0) (bn_cI (bn_ev 14 0 [some (.ref a0), some (.int a4), some (.int a1)] [] h) (fun x3 h2 => if x3 = 0 then (bn_ev 16 5 [some (.ref a0), some (.int a1), some (.int a2), some (.int a3), some (.int (a4 + 1))] [] h2) else (if a3 = 0 then (some (some (.int a4), h2)) else (bn_ev 16 5 [some (.ref a0), some (.int a1), some (.int a2), some (.int (a3 + (-1))), some (.int (a4 + 1))] [] h2)))))) := by
  refine Eq.trans (be_iload bd_16_5 rfl) ?_
  refine Eq.trans (be_aload_n bd_16_7 rfl) ?_
  refine Eq.trans (be_getI bd_16_8 bf_0_42 rfl) ?_
  refine bn_gI_c fun x1 => ?_
  refine Eq.trans (be_icmp_ge (t := 40) bd_16_11 rfl) ?_
  refine bn_if_c ?_ ?_
  · refine Eq.trans (be_bipush (v := (-9)) bd_16_40 (by decide)) ?_
    exact be_ireturn bd_16_42 rfl
  · refine Eq.trans (be_aload_n bd_16_14 rfl) ?_
    refine Eq.trans (be_iload bd_16_15 rfl) ?_
    refine Eq.trans (be_iload_n bd_16_17 rfl) ?_
    refine Eq.trans (be_virtI (as := [.int a1, .int a4]) (rr := []) (en := [some (.ref a0), some (.int a4), some (.int a1)]) bd_16_18 bm_0_83 rfl rfl rfl ⟨Nat.le_of_ble_eq_true rfl, Nat.le_of_ble_eq_true rfl, Nat.le_of_ble_eq_true rfl, Nat.le_of_ble_eq_true rfl⟩ (Or.inr rfl)) ?_
    refine bn_gd_c (bn_cI_c fun x3 h2 => ?_)
    refine Eq.trans (be_if_eq (t := 34) bd_16_21 rfl) ?_
    refine bn_if_c ?_ ?_
    · refine Eq.trans (be_iinc (v := 1) (ls' := [some (.ref a0), some (.int a1), some (.int a2), some (.int a3), some (.int (a4 + 1))]) bd_16_34 rfl (by decide) (Nat.le_of_ble_eq_true rfl) rfl) ?_
      refine Eq.trans (be_goto (t := 5) bd_16_37 rfl) ?_
      rfl
    · refine Eq.trans (be_iload_n bd_16_24 rfl) ?_
      refine Eq.trans (be_if_ne (t := 31) bd_16_25 rfl) ?_
      refine bn_if_c ?_ ?_
      · refine Eq.trans (be_iload bd_16_28 rfl) ?_
        exact be_ireturn bd_16_30 rfl
      · refine Eq.trans (be_iinc (v := (-1)) (ls' := [some (.ref a0), some (.int a1), some (.int a2), some (.int (a3 + (-1))), some (.int a4)]) bd_16_31 rfl (by decide) (Nat.le_of_ble_eq_true rfl) rfl) ?_
        refine Eq.trans (be_iinc (v := 1) (ls' := [some (.ref a0), some (.int a1), some (.int a2), some (.int (a3 + (-1))), some (.int (a4 + 1))]) bd_16_34 rfl (by decide) (Nat.le_of_ble_eq_true rfl) rfl) ?_
        refine Eq.trans (be_goto (t := 5) bd_16_37 rfl) ?_
        rfl
theorem bs_X0_eatenLoaves_0 (a0 : Nat) (h : bn_H) : bn_ev 17 0 [some (.ref a0), none, none] [] h = bn_ev 17 4 [some (.ref a0), some (.int 0), some (.int 0)] [] h := by
  refine Eq.trans (be_iconst (v := 0) bd_17_0 (by decide)) ?_
  refine Eq.trans (be_istore_n (ls' := [some (.ref a0), some (.int 0), none]) bd_17_1 (Nat.le_of_ble_eq_true rfl) rfl) ?_
  refine Eq.trans (be_iconst (v := 0) bd_17_2 (by decide)) ?_
  refine Eq.trans (be_istore_n (ls' := [some (.ref a0), some (.int 0), some (.int 0)]) bd_17_3 (Nat.le_of_ble_eq_true rfl) rfl) ?_
  rfl
theorem bs_X0_eatenLoaves_4 (a0 : Nat) (a1 : Int32) (a2 : Int32) (h : bn_H) : bn_ev 17 4 [some (.ref a0), some (.int a1), some (.int a2)] [] h = bn_gI h a0 0 9 (fun x1 => if x1 ≤ a2 then (some (some (.int a1), h)) else (bn_gR h a0 0 11 (fun p2 => (bn_ld h p2 0 a2).bind (fun x3 => if x3 = 20 then (bn_ev 17 4 [some (.ref a0), some (.int (a1 + 1)), some (.int (a2 + 1))] [] h) else (bn_ev 17 4 [some (.ref a0), some (.int a1), some (.int (a2 + 1))] [] h))))) := by
  refine Eq.trans (be_iload_n bd_17_4 rfl) ?_
  refine Eq.trans (be_aload_n bd_17_5 rfl) ?_
  refine Eq.trans (be_getI bd_17_6 bf_0_42 rfl) ?_
  refine bn_gI_c fun x1 => ?_
  refine Eq.trans (be_icmp_ge (t := 32) bd_17_9 rfl) ?_
  refine bn_if_c ?_ ?_
  · refine Eq.trans (be_iload_n bd_17_32 rfl) ?_
    exact be_ireturn bd_17_33 rfl
  · refine Eq.trans (be_aload_n bd_17_12 rfl) ?_
    refine Eq.trans (be_getR bd_17_13 bf_0_48 rfl (Or.inl ⟨_, rfl⟩)) ?_
    refine bn_gR_c fun p2 => ?_
    refine Eq.trans (be_iload_n bd_17_16 rfl) ?_
    refine Eq.trans (be_iaload bd_17_17) ?_
    refine bn_bd_c fun x3 => ?_
    refine Eq.trans (be_bipush (v := 20) bd_17_18 (by decide)) ?_
    refine Eq.trans (be_icmp_ne (t := 26) bd_17_20 rfl) ?_
    refine bn_if_c ?_ ?_
    · refine Eq.trans (be_iinc (v := 1) (ls' := [some (.ref a0), some (.int (a1 + 1)), some (.int a2)]) bd_17_23 rfl (by decide) (Nat.le_of_ble_eq_true rfl) rfl) ?_
      refine Eq.trans (be_iinc (v := 1) (ls' := [some (.ref a0), some (.int (a1 + 1)), some (.int (a2 + 1))]) bd_17_26 rfl (by decide) (Nat.le_of_ble_eq_true rfl) rfl) ?_
      refine Eq.trans (be_goto (t := 4) bd_17_29 rfl) ?_
      rfl
    · refine Eq.trans (be_iinc (v := 1) (ls' := [some (.ref a0), some (.int a1), some (.int (a2 + 1))]) bd_17_26 rfl (by decide) (Nat.le_of_ble_eq_true rfl) rfl) ?_
      refine Eq.trans (be_goto (t := 4) bd_17_29 rfl) ?_
      rfl
theorem bs_X0_badLoaves_0 (a0 : Nat) (h : bn_H) : bn_ev 18 0 [some (.ref a0), none, none] [] h = bn_ev 18 4 [some (.ref a0), some (.int 0), some (.int 0)] [] h := by
  refine Eq.trans (be_iconst (v := 0) bd_18_0 (by decide)) ?_
  refine Eq.trans (be_istore_n (ls' := [some (.ref a0), some (.int 0), none]) bd_18_1 (Nat.le_of_ble_eq_true rfl) rfl) ?_
  refine Eq.trans (be_iconst (v := 0) bd_18_2 (by decide)) ?_
  refine Eq.trans (be_istore_n (ls' := [some (.ref a0), some (.int 0), some (.int 0)]) bd_18_3 (Nat.le_of_ble_eq_true rfl) rfl) ?_
  rfl
theorem bs_X0_badLoaves_4 (a0 : Nat) (a1 : Int32) (a2 : Int32) (h : bn_H) : bn_ev 18 4 [some (.ref a0), some (.int a1), some (.int a2)] [] h = bn_gI h a0 0 9 (fun x1 => if x1 ≤ a2 then (some (some (.int a1), h)) else (bn_gR h a0 0 11 (fun p2 => (bn_ld h p2 0 a2).bind (fun x3 => if x3 = 20 then (bn_ev 18 4 [some (.ref a0), some (.int a1), some (.int (a2 + 1))] [] h) else (bn_gd (bn_isC h a0 0) (bn_cI (bn_ev 8 0 [some (.ref a0), some (.int a2)] [] h) (fun x5 h4 => if x5 = 0 then (bn_ev 18 4 [some (.ref a0), some (.int a1), some (.int (a2 + 1))] [] h4) else (bn_ev 18 4 [some (.ref a0), some (.int (a1 + 1)), some (.int (a2 + 1))] [] h4)))))))) := by
  refine Eq.trans (be_iload_n bd_18_4 rfl) ?_
  refine Eq.trans (be_aload_n bd_18_5 rfl) ?_
  refine Eq.trans (be_getI bd_18_6 bf_0_42 rfl) ?_
  refine bn_gI_c fun x1 => ?_
  refine Eq.trans (be_icmp_ge (t := 40) bd_18_9 rfl) ?_
  refine bn_if_c ?_ ?_
  · refine Eq.trans (be_iload_n bd_18_40 rfl) ?_
    exact be_ireturn bd_18_41 rfl
  · refine Eq.trans (be_aload_n bd_18_12 rfl) ?_
    refine Eq.trans (be_getR bd_18_13 bf_0_48 rfl (Or.inl ⟨_, rfl⟩)) ?_
    refine bn_gR_c fun p2 => ?_
    refine Eq.trans (be_iload_n bd_18_16 rfl) ?_
    refine Eq.trans (be_iaload bd_18_17) ?_
    refine bn_bd_c fun x3 => ?_
    refine Eq.trans (be_bipush (v := 20) bd_18_18 (by decide)) ?_
    refine Eq.trans (be_icmp_eq (t := 34) bd_18_20 rfl) ?_
    refine bn_if_c ?_ ?_
    · refine Eq.trans (be_iinc (v := 1) (ls' := [some (.ref a0), some (.int a1), some (.int (a2 + 1))]) bd_18_34 rfl (by decide) (Nat.le_of_ble_eq_true rfl) rfl) ?_
      refine Eq.trans (be_goto (t := 4) bd_18_37 rfl) ?_
      rfl
    · refine Eq.trans (be_aload_n bd_18_23 rfl) ?_
      refine Eq.trans (be_iload_n bd_18_24 rfl) ?_
      refine Eq.trans (be_virtI (as := [.int a2]) (rr := []) (en := [some (.ref a0), some (.int a2)]) bd_18_25 bm_0_87 rfl rfl rfl ⟨Nat.le_of_ble_eq_true rfl, Nat.le_of_ble_eq_true rfl, Nat.le_of_ble_eq_true rfl, Nat.le_of_ble_eq_true rfl⟩ (Or.inr rfl)) ?_
      refine bn_gd_c (bn_cI_c fun x5 h4 => ?_)
      refine Eq.trans (be_if_eq (t := 34) bd_18_28 rfl) ?_
      refine bn_if_c ?_ ?_
      · refine Eq.trans (be_iinc (v := 1) (ls' := [some (.ref a0), some (.int a1), some (.int (a2 + 1))]) bd_18_34 rfl (by decide) (Nat.le_of_ble_eq_true rfl) rfl) ?_
        refine Eq.trans (be_goto (t := 4) bd_18_37 rfl) ?_
        rfl
      · refine Eq.trans (be_iinc (v := 1) (ls' := [some (.ref a0), some (.int (a1 + 1)), some (.int a2)]) bd_18_31 rfl (by decide) (Nat.le_of_ble_eq_true rfl) rfl) ?_
        refine Eq.trans (be_iinc (v := 1) (ls' := [some (.ref a0), some (.int (a1 + 1)), some (.int (a2 + 1))]) bd_18_34 rfl (by decide) (Nat.le_of_ble_eq_true rfl) rfl) ?_
        refine Eq.trans (be_goto (t := 4) bd_18_37 rfl) ?_
        rfl
theorem bs_X0_hasNumber_0 (a0 : Nat) (a1 : Int32) (h : bn_H) : bn_ev 19 0 [some (.ref a0), some (.int a1), none] [] h = bn_ev 19 2 [some (.ref a0), some (.int a1), some (.int 0)] [] h := by
  refine Eq.trans (be_iconst (v := 0) bd_19_0 (by decide)) ?_
  refine Eq.trans (be_istore_n (ls' := [some (.ref a0), some (.int a1), some (.int 0)]) bd_19_1 (Nat.le_of_ble_eq_true rfl) rfl) ?_
  rfl
theorem bs_X0_hasNumber_2 (a0 : Nat) (a1 : Int32) (a2 : Int32) (h : bn_H) : bn_ev 19 2 [some (.ref a0), some (.int a1), some (.int a2)] [] h = bn_gI h a0 0 9 (fun x1 => if x1 ≤ a2 then (some (some (.int 0), h)) else (bn_gR h a0 0 10 (fun p2 => (bn_ld h p2 0 a2).bind (fun x3 => if x3 = a1 then (some (some (.int 1), h)) else (bn_ev 19 2 [some (.ref a0), some (.int a1), some (.int (a2 + 1))] [] h))))) := by
  refine Eq.trans (be_iload_n bd_19_2 rfl) ?_
  refine Eq.trans (be_aload_n bd_19_3 rfl) ?_
  refine Eq.trans (be_getI bd_19_4 bf_0_42 rfl) ?_
  refine bn_gI_c fun x1 => ?_
  refine Eq.trans (be_icmp_ge (t := 28) bd_19_7 rfl) ?_
  refine bn_if_c ?_ ?_
  · refine Eq.trans (be_iconst (v := 0) bd_19_28 (by decide)) ?_
    exact be_z0 bd_19_29 rfl (Or.inl rfl)
  · refine Eq.trans (be_aload_n bd_19_10 rfl) ?_
    refine Eq.trans (be_getR bd_19_11 bf_0_45 rfl (Or.inl ⟨_, rfl⟩)) ?_
    refine bn_gR_c fun p2 => ?_
    refine Eq.trans (be_iload_n bd_19_14 rfl) ?_
    refine Eq.trans (be_iaload bd_19_15) ?_
    refine bn_bd_c fun x3 => ?_
    refine Eq.trans (be_iload_n bd_19_16 rfl) ?_
    refine Eq.trans (be_icmp_ne (t := 22) bd_19_17 rfl) ?_
    refine bn_if_c ?_ ?_
    · refine Eq.trans (be_iconst (v := 1) bd_19_20 (by decide)) ?_
      exact be_z0 bd_19_21 rfl (Or.inr rfl)
    · refine Eq.trans (be_iinc (v := 1) (ls' := [some (.ref a0), some (.int a1), some (.int (a2 + 1))]) bd_19_22 rfl (by decide) (Nat.le_of_ble_eq_true rfl) rfl) ?_
      refine Eq.trans (be_goto (t := 2) bd_19_25 rfl) ?_
      rfl
theorem bs_X0_greatestNumber_0 (a0 : Nat) (h : bn_H) : bn_ev 20 0 [some (.ref a0), none, none] [] h = bn_ev 20 4 [some (.ref a0), some (.int 0), some (.int 0)] [] h := by
  refine Eq.trans (be_iconst (v := 0) bd_20_0 (by decide)) ?_
  refine Eq.trans (be_istore_n (ls' := [some (.ref a0), some (.int 0), none]) bd_20_1 (Nat.le_of_ble_eq_true rfl) rfl) ?_
  refine Eq.trans (be_iconst (v := 0) bd_20_2 (by decide)) ?_
  refine Eq.trans (be_istore_n (ls' := [some (.ref a0), some (.int 0), some (.int 0)]) bd_20_3 (Nat.le_of_ble_eq_true rfl) rfl) ?_
  rfl
theorem bs_X0_greatestNumber_4 (a0 : Nat) (a1 : Int32) (a2 : Int32) (h : bn_H) : bn_ev 20 4 [some (.ref a0), some (.int a1), some (.int a2)] [] h = bn_gI h a0 0 9 (fun x1 => if x1 ≤ a2 then (some (some (.int a1), h)) else (bn_gR h a0 0 10 (fun p2 => (bn_ld h p2 0 a2).bind (fun x3 => bn_ev 20 4 [some (.ref a0), some (.int (if a1 < x3 then x3 else a1)), some (.int (a2 + 1))] [] h)))) := by
  refine Eq.trans (be_iload_n bd_20_4 rfl) ?_
  refine Eq.trans (be_aload_n bd_20_5 rfl) ?_
  refine Eq.trans (be_getI bd_20_6 bf_0_42 rfl) ?_
  refine bn_gI_c fun x1 => ?_
  refine Eq.trans (be_icmp_ge (t := 29) bd_20_9 rfl) ?_
  refine bn_if_c ?_ ?_
  · refine Eq.trans (be_iload_n bd_20_29 rfl) ?_
    exact be_ireturn bd_20_30 rfl
  · refine Eq.trans (be_iload_n bd_20_12 rfl) ?_
    refine Eq.trans (be_aload_n bd_20_13 rfl) ?_
    refine Eq.trans (be_getR bd_20_14 bf_0_45 rfl (Or.inl ⟨_, rfl⟩)) ?_
    refine bn_gR_c fun p2 => ?_
    refine Eq.trans (be_iload_n bd_20_17 rfl) ?_
    refine Eq.trans (be_iaload bd_20_18) ?_
    refine bn_bd_c fun x3 => ?_
    refine Eq.trans (be_max bd_20_19 bm_0_90 ⟨Nat.le_of_ble_eq_true rfl, Nat.le_of_ble_eq_true rfl, Nat.le_of_ble_eq_true rfl⟩) ?_
    refine Eq.trans (be_istore_n (ls' := [some (.ref a0), some (.int (if a1 < x3 then x3 else a1)), some (.int a2)]) bd_20_22 (Nat.le_of_ble_eq_true rfl) rfl) ?_
    refine Eq.trans (be_iinc (v := 1) (ls' := [some (.ref a0), some (.int (if a1 < x3 then x3 else a1)), some (.int (a2 + 1))]) bd_20_23 rfl (by decide) (Nat.le_of_ble_eq_true rfl) rfl) ?_
    refine Eq.trans (be_goto (t := 4) bd_20_26 rfl) ?_
    rfl
theorem bs_X0_missingCount_0 (a0 : Nat) (h : bn_H) : bn_ev 21 0 [some (.ref a0), none, none, none] [] h = bn_gd (bn_isC h a0 0) (bn_cI (bn_ev 20 0 [some (.ref a0), none, none] [] h) (fun x2 h1 => bn_ev 21 9 [some (.ref a0), some (.int x2), some (.int 0), some (.int 1)] [] h1)) := by
  refine Eq.trans (be_aload_n bd_21_0 rfl) ?_
  refine Eq.trans (be_virtI (as := []) (rr := []) (en := [some (.ref a0), none, none]) bd_21_1 bm_0_96 rfl rfl rfl ⟨Nat.le_of_ble_eq_true rfl, Nat.le_of_ble_eq_true rfl, Nat.le_of_ble_eq_true rfl, Nat.le_of_ble_eq_true rfl⟩ (Or.inl rfl)) ?_
  refine bn_gd_c (bn_cI_c fun x2 h1 => ?_)
  refine Eq.trans (be_istore_n (ls' := [some (.ref a0), some (.int x2), none, none]) bd_21_4 (Nat.le_of_ble_eq_true rfl) rfl) ?_
  refine Eq.trans (be_iconst (v := 0) bd_21_5 (by decide)) ?_
  refine Eq.trans (be_istore_n (ls' := [some (.ref a0), some (.int x2), some (.int 0), none]) bd_21_6 (Nat.le_of_ble_eq_true rfl) rfl) ?_
  refine Eq.trans (be_iconst (v := 1) bd_21_7 (by decide)) ?_
  refine Eq.trans (be_istore_n (ls' := [some (.ref a0), some (.int x2), some (.int 0), some (.int 1)]) bd_21_8 (Nat.le_of_ble_eq_true rfl) rfl) ?_
  rfl
theorem bs_X0_missingCount_9 (a0 : Nat) (a1 : Int32) (a2 : Int32) (a3 : Int32) (h : bn_H) : bn_ev 21 9 [some (.ref a0), some (.int a1), some (.int a2), some (.int a3)] [] h = if a1 ≤ a3 then (some (some (.int a2), h)) else (bn_gd (bn_isC h a0 0) (bn_cI (bn_ev 19 0 [some (.ref a0), some (.int a3), none] [] h) (fun x2 h1 => if x2 = 0 then (bn_ev 21 9 [some (.ref a0), some (.int a1), some (.int (a2 + 1)), some (.int (a3 + 1))] [] h1) else (bn_ev 21 9 [some (.ref a0), some (.int a1), some (.int a2), some (.int (a3 + 1))] [] h1)))) := by
  refine Eq.trans (be_iload_n bd_21_9 rfl) ?_
  refine Eq.trans (be_iload_n bd_21_10 rfl) ?_
  refine Eq.trans (be_icmp_ge (t := 31) bd_21_11 rfl) ?_
  refine bn_if_c ?_ ?_
  · refine Eq.trans (be_iload_n bd_21_31 rfl) ?_
    exact be_ireturn bd_21_32 rfl
  · refine Eq.trans (be_aload_n bd_21_14 rfl) ?_
    refine Eq.trans (be_iload_n bd_21_15 rfl) ?_
    refine Eq.trans (be_virtI (as := [.int a3]) (rr := []) (en := [some (.ref a0), some (.int a3), none]) bd_21_16 bm_0_99 rfl rfl rfl ⟨Nat.le_of_ble_eq_true rfl, Nat.le_of_ble_eq_true rfl, Nat.le_of_ble_eq_true rfl, Nat.le_of_ble_eq_true rfl⟩ (Or.inr rfl)) ?_
    refine bn_gd_c (bn_cI_c fun x2 h1 => ?_)
    refine Eq.trans (be_if_ne (t := 25) bd_21_19 rfl) ?_
    refine bn_if_c ?_ ?_
    · refine Eq.trans (be_iinc (v := 1) (ls' := [some (.ref a0), some (.int a1), some (.int (a2 + 1)), some (.int a3)]) bd_21_22 rfl (by decide) (Nat.le_of_ble_eq_true rfl) rfl) ?_
      refine Eq.trans (be_iinc (v := 1) (ls' := [some (.ref a0), some (.int a1), some (.int (a2 + 1)), some (.int (a3 + 1))]) bd_21_25 rfl (by decide) (Nat.le_of_ble_eq_true rfl) rfl) ?_
      refine Eq.trans (be_goto (t := 9) bd_21_28 rfl) ?_
      rfl
    · refine Eq.trans (be_iinc (v := 1) (ls' := [some (.ref a0), some (.int a1), some (.int a2), some (.int (a3 + 1))]) bd_21_25 rfl (by decide) (Nat.le_of_ble_eq_true rfl) rfl) ?_
      refine Eq.trans (be_goto (t := 9) bd_21_28 rfl) ?_
      rfl
theorem bs_X0_isAllowed_0 (a0 : Nat) (a1 : Int32) (a2 : Int32) (h : bn_H) : bn_ev 22 0 [some (.ref a0), some (.int a1), some (.int a2)] [] h = bn_gd (bn_isC h a0 0) (bn_cI (bn_ev 7 0 [some (.ref a0), some (.int a1)] [] h) (fun x2 h1 => if x2 = 0 then (some (some (.int 0), h1)) else (bn_gR h1 a0 0 7 (fun p3 => (bn_ld h1 p3 1 a1).bind (fun x4 => if x4 = 0 then (bn_gR h1 a0 0 11 (fun p5 => (bn_ld h1 p5 0 a2).bind (fun x6 => if x6 = a1 then (bn_gd (bn_isC h1 a0 0) (bn_cI (bn_ev 8 0 [some (.ref a0), some (.int a2)] [] h1) (fun x8 h7 => if x8 = 0 then (bn_gR h7 a0 0 10 (fun p9 => (bn_ld h7 p9 0 a2).bind (fun x10 => bn_gd (bn_isC h7 a0 0) (bn_cI (bn_ev 23 0 [some (.ref a0), some (.int a1), some (.int x10), none, none] [] h7) (fun x12 h11 => if x12 = 0 then (some (some (.int 1), h11)) else (some (some (.int 0), h11))))))) else (some (some (.int 0), h7))))) else (some (some (.int 0), h1))))) else (some (some (.int 0), h1))))))) := by
  refine Eq.trans (be_aload_n bd_22_0 rfl) ?_
  refine Eq.trans (be_iload_n bd_22_1 rfl) ?_
  refine Eq.trans (be_virtI (as := [.int a1]) (rr := []) (en := [some (.ref a0), some (.int a1)]) bd_22_2 bm_0_66 rfl rfl rfl ⟨Nat.le_of_ble_eq_true rfl, Nat.le_of_ble_eq_true rfl, Nat.le_of_ble_eq_true rfl, Nat.le_of_ble_eq_true rfl⟩ (Or.inr rfl)) ?_
  refine bn_gd_c (bn_cI_c fun x2 h1 => ?_)
  refine Eq.trans (be_if_eq (t := 53) bd_22_5 rfl) ?_
  refine bn_if_c ?_ ?_
  · refine Eq.trans (be_iconst (v := 0) bd_22_53 (by decide)) ?_
    exact be_z0 bd_22_54 rfl (Or.inl rfl)
  · refine Eq.trans (be_aload_n bd_22_8 rfl) ?_
    refine Eq.trans (be_getR bd_22_9 bf_0_35 rfl (Or.inl ⟨_, rfl⟩)) ?_
    refine bn_gR_c fun p3 => ?_
    refine Eq.trans (be_iload_n bd_22_12 rfl) ?_
    refine Eq.trans (be_baload bd_22_13) ?_
    refine bn_bd_c fun x4 => ?_
    refine Eq.trans (be_if_ne (t := 53) bd_22_14 rfl) ?_
    refine bn_if_c ?_ ?_
    · refine Eq.trans (be_aload_n bd_22_17 rfl) ?_
      refine Eq.trans (be_getR bd_22_18 bf_0_48 rfl (Or.inl ⟨_, rfl⟩)) ?_
      refine bn_gR_c fun p5 => ?_
      refine Eq.trans (be_iload_n bd_22_21 rfl) ?_
      refine Eq.trans (be_iaload bd_22_22) ?_
      refine bn_bd_c fun x6 => ?_
      refine Eq.trans (be_iload_n bd_22_23 rfl) ?_
      refine Eq.trans (be_icmp_ne (t := 53) bd_22_24 rfl) ?_
      refine bn_if_c ?_ ?_
      · refine Eq.trans (be_aload_n bd_22_27 rfl) ?_
        refine Eq.trans (be_iload_n bd_22_28 rfl) ?_
        refine Eq.trans (be_virtI (as := [.int a2]) (rr := []) (en := [some (.ref a0), some (.int a2)]) bd_22_29 bm_0_87 rfl rfl rfl ⟨Nat.le_of_ble_eq_true rfl, Nat.le_of_ble_eq_true rfl, Nat.le_of_ble_eq_true rfl, Nat.le_of_ble_eq_true rfl⟩ (Or.inr rfl)) ?_
        refine bn_gd_c (bn_cI_c fun x8 h7 => ?_)
        refine Eq.trans (be_if_ne (t := 53) bd_22_32 rfl) ?_
        refine bn_if_c ?_ ?_
        · refine Eq.trans (be_aload_n bd_22_35 rfl) ?_
          refine Eq.trans (be_iload_n bd_22_36 rfl) ?_
          refine Eq.trans (be_aload_n bd_22_37 rfl) ?_
          refine Eq.trans (be_getR bd_22_38 bf_0_45 rfl (Or.inl ⟨_, rfl⟩)) ?_
          refine bn_gR_c fun p9 => ?_
          refine Eq.trans (be_iload_n bd_22_41 rfl) ?_
          refine Eq.trans (be_iaload bd_22_42) ?_
          refine bn_bd_c fun x10 => ?_
          refine Eq.trans (be_virtI (as := [.int x10, .int a1]) (rr := []) (en := [some (.ref a0), some (.int a1), some (.int x10), none, none]) bd_22_43 bm_0_102 rfl rfl rfl ⟨Nat.le_of_ble_eq_true rfl, Nat.le_of_ble_eq_true rfl, Nat.le_of_ble_eq_true rfl, Nat.le_of_ble_eq_true rfl⟩ (Or.inr rfl)) ?_
          refine bn_gd_c (bn_cI_c fun x12 h11 => ?_)
          refine Eq.trans (be_if_ne (t := 53) bd_22_46 rfl) ?_
          refine bn_if_c ?_ ?_
          · refine Eq.trans (be_iconst (v := 1) bd_22_49 (by decide)) ?_
            refine Eq.trans (be_goto (t := 54) bd_22_50 rfl) ?_
            exact be_z0 bd_22_54 rfl (Or.inr rfl)
          · refine Eq.trans (be_iconst (v := 0) bd_22_53 (by decide)) ?_
            exact be_z0 bd_22_54 rfl (Or.inl rfl)
        · refine Eq.trans (be_iconst (v := 0) bd_22_53 (by decide)) ?_
          exact be_z0 bd_22_54 rfl (Or.inl rfl)
      · refine Eq.trans (be_iconst (v := 0) bd_22_53 (by decide)) ?_
        exact be_z0 bd_22_54 rfl (Or.inl rfl)
    · refine Eq.trans (be_iconst (v := 0) bd_22_53 (by decide)) ?_
      exact be_z0 bd_22_54 rfl (Or.inl rfl)
theorem bs_X0_lawForbids_0 (a0 : Nat) (a1 : Int32) (a2 : Int32) (h : bn_H) : bn_ev 23 0 [some (.ref a0), some (.int a1), some (.int a2), none, none] [] h = bn_ev 23 2 [some (.ref a0), some (.int a1), some (.int a2), some (.int 0), none] [] h := by
  refine Eq.trans (be_iconst (v := 0) bd_23_0 (by decide)) ?_
  refine Eq.trans (be_istore_n (ls' := [some (.ref a0), some (.int a1), some (.int a2), some (.int 0), none]) bd_23_1 (Nat.le_of_ble_eq_true rfl) rfl) ?_
  rfl
theorem bs_X0_lawForbids_2 (a0 : Nat) (a1 : Int32) (a2 : Int32) (a3 : Int32) (o4 : Option Value) (h : bn_H) : bn_ev 23 2 [some (.ref a0), some (.int a1), some (.int a2), some (.int a3), o4] [] h = bn_gI h a0 0 9 (fun x1 => if x1 ≤ a3 then (some (some (.int 0), h)) else (bn_gI h a0 0 0 (fun x2 => if x2 = 0 then (bn_gR h a0 0 11 (fun p3 => (bn_ld h p3 0 a3).bind (fun x4 => if x4 = a1 then (if (1 : Int32) = 0 then (bn_ev 23 2 [some (.ref a0), some (.int a1), some (.int a2), some (.int (a3 + 1)), some (.int 1)] [] h) else (bn_gR h a0 0 10 (fun p5 => (bn_ld h p5 0 a3).bind (fun x6 => if a2 ≤ x6 then (bn_ev 23 2 [some (.ref a0), some (.int a1), some (.int a2), some (.int (a3 + 1)), some (.int 1)] [] h) else (bn_gd (bn_isC h a0 0) (bn_cI (bn_ev 8 0 [some (.ref a0), some (.int a3)] [] h) (fun x8 h7 => if x8 = 0 then (some (some (.int 1), h7)) else (bn_ev 23 2 [some (.ref a0), some (.int a1), some (.int a2), some (.int (a3 + 1)), some (.int 1)] [] h7)))))))) else (bn_ev 23 27 [some (.ref a0), some (.int a1), some (.int a2), some (.int a3), o4] [] h)))) else (bn_ev 23 27 [some (.ref a0), some (.int a1), some (.int a2), some (.int a3), o4] [] h)))) := by
  refine Eq.trans (be_iload_n bd_23_2 rfl) ?_
  refine Eq.trans (be_aload_n bd_23_3 rfl) ?_
  refine Eq.trans (be_getI bd_23_4 bf_0_42 rfl) ?_
  refine bn_gI_c fun x1 => ?_
  refine Eq.trans (be_icmp_ge (t := 81) bd_23_7 rfl) ?_
  refine bn_if_c ?_ ?_
  · refine Eq.trans (be_iconst (v := 0) bd_23_81 (by decide)) ?_
    exact be_z0 bd_23_82 rfl (Or.inl rfl)
  · refine Eq.trans (be_aload_n bd_23_10 rfl) ?_
    refine Eq.trans (be_getI bd_23_11 bf_0_9 rfl) ?_
    refine bn_gI_c fun x2 => ?_
    refine Eq.trans (be_if_ne (t := 27) bd_23_14 rfl) ?_
    refine bn_if_c ?_ ?_
    · refine Eq.trans (be_aload_n bd_23_17 rfl) ?_
      refine Eq.trans (be_getR bd_23_18 bf_0_48 rfl (Or.inl ⟨_, rfl⟩)) ?_
      refine bn_gR_c fun p3 => ?_
      refine Eq.trans (be_iload_n bd_23_21 rfl) ?_
      refine Eq.trans (be_iaload bd_23_22) ?_
      refine bn_bd_c fun x4 => ?_
      refine Eq.trans (be_iload_n bd_23_23 rfl) ?_
      refine Eq.trans (be_icmp_eq (t := 43) bd_23_24 rfl) ?_
      refine bn_if_c ?_ ?_
      · refine Eq.trans (be_iconst (v := 1) bd_23_43 (by decide)) ?_
        refine Eq.trans (be_goto (t := 48) bd_23_44 rfl) ?_
        refine Eq.trans (be_istore (ls' := [some (.ref a0), some (.int a1), some (.int a2), some (.int a3), some (.int 1)]) bd_23_48 (Nat.le_of_ble_eq_true rfl) rfl) ?_
        refine Eq.trans (be_iload bd_23_50 rfl) ?_
        refine Eq.trans (be_if_eq (t := 75) bd_23_52 rfl) ?_
        refine bn_if_c ?_ ?_
        · refine Eq.trans (be_iinc (v := 1) (ls' := [some (.ref a0), some (.int a1), some (.int a2), some (.int (a3 + 1)), some (.int 1)]) bd_23_75 rfl (by decide) (Nat.le_of_ble_eq_true rfl) rfl) ?_
          refine Eq.trans (be_goto (t := 2) bd_23_78 rfl) ?_
          rfl
        · refine Eq.trans (be_aload_n bd_23_55 rfl) ?_
          refine Eq.trans (be_getR bd_23_56 bf_0_45 rfl (Or.inl ⟨_, rfl⟩)) ?_
          refine bn_gR_c fun p5 => ?_
          refine Eq.trans (be_iload_n bd_23_59 rfl) ?_
          refine Eq.trans (be_iaload bd_23_60) ?_
          refine bn_bd_c fun x6 => ?_
          refine Eq.trans (be_iload_n bd_23_61 rfl) ?_
          refine Eq.trans (be_icmp_ge (t := 75) bd_23_62 rfl) ?_
          refine bn_if_c ?_ ?_
          · refine Eq.trans (be_iinc (v := 1) (ls' := [some (.ref a0), some (.int a1), some (.int a2), some (.int (a3 + 1)), some (.int 1)]) bd_23_75 rfl (by decide) (Nat.le_of_ble_eq_true rfl) rfl) ?_
            refine Eq.trans (be_goto (t := 2) bd_23_78 rfl) ?_
            rfl
          · refine Eq.trans (be_aload_n bd_23_65 rfl) ?_
            refine Eq.trans (be_iload_n bd_23_66 rfl) ?_
            refine Eq.trans (be_virtI (as := [.int a3]) (rr := []) (en := [some (.ref a0), some (.int a3)]) bd_23_67 bm_0_87 rfl rfl rfl ⟨Nat.le_of_ble_eq_true rfl, Nat.le_of_ble_eq_true rfl, Nat.le_of_ble_eq_true rfl, Nat.le_of_ble_eq_true rfl⟩ (Or.inr rfl)) ?_
            refine bn_gd_c (bn_cI_c fun x8 h7 => ?_)
            refine Eq.trans (be_if_ne (t := 75) bd_23_70 rfl) ?_
            refine bn_if_c ?_ ?_
            · refine Eq.trans (be_iconst (v := 1) bd_23_73 (by decide)) ?_
              exact be_z0 bd_23_74 rfl (Or.inr rfl)
            · refine Eq.trans (be_iinc (v := 1) (ls' := [some (.ref a0), some (.int a1), some (.int a2), some (.int (a3 + 1)), some (.int 1)]) bd_23_75 rfl (by decide) (Nat.le_of_ble_eq_true rfl) rfl) ?_
              refine Eq.trans (be_goto (t := 2) bd_23_78 rfl) ?_
              rfl
      · rfl
    · rfl
theorem bs_X0_lawForbids_27 (a0 : Nat) (a1 : Int32) (a2 : Int32) (a3 : Int32) (o4 : Option Value) (h : bn_H) : bn_ev 23 27 [some (.ref a0), some (.int a1), some (.int a2), some (.int a3), o4] [] h = bn_gI h a0 0 0 (fun x1 => if x1 = 1 then (bn_gd (bn_isC h a0 0) (bn_cI (bn_ev 9 0 [some (.ref a0), some (.int a3)] [] h) (fun x3 h2 => if x3 = 0 then (bn_ev 23 47 [some (.ref a0), some (.int a1), some (.int a2), some (.int a3), o4] [] h2) else (if (1 : Int32) = 0 then (bn_ev 23 2 [some (.ref a0), some (.int a1), some (.int a2), some (.int (a3 + 1)), some (.int 1)] [] h2) else (bn_gR h2 a0 0 10 (fun p4 => (bn_ld h2 p4 0 a3).bind (fun x5 => if a2 ≤ x5 then (bn_ev 23 2 [some (.ref a0), some (.int a1), some (.int a2), some (.int (a3 + 1)), some (.int 1)] [] h2) else (bn_gd (bn_isC h2 a0 0) (bn_cI (bn_ev 8 0 [some (.ref a0), some (.int a3)] [] h2) (fun x7 h6 => if x7 = 0 then (some (some (.int 1), h6)) else (bn_ev 23 2 [some (.ref a0), some (.int a1), some (.int a2), some (.int (a3 + 1)), some (.int 1)] [] h6))))))))))) else (bn_ev 23 47 [some (.ref a0), some (.int a1), some (.int a2), some (.int a3), o4] [] h)) := by
  refine Eq.trans (be_aload_n bd_23_27 rfl) ?_
  refine Eq.trans (be_getI bd_23_28 bf_0_9 rfl) ?_
  refine bn_gI_c fun x1 => ?_
  refine Eq.trans (be_iconst (v := 1) bd_23_31 (by decide)) ?_
  refine Eq.trans (be_icmp_ne (t := 47) bd_23_32 rfl) ?_
  refine bn_if_c ?_ ?_
  · refine Eq.trans (be_aload_n bd_23_35 rfl) ?_
    refine Eq.trans (be_iload_n bd_23_36 rfl) ?_
    refine Eq.trans (be_virtI (as := [.int a3]) (rr := []) (en := [some (.ref a0), some (.int a3)]) bd_23_37 bm_0_80 rfl rfl rfl ⟨Nat.le_of_ble_eq_true rfl, Nat.le_of_ble_eq_true rfl, Nat.le_of_ble_eq_true rfl, Nat.le_of_ble_eq_true rfl⟩ (Or.inr rfl)) ?_
    refine bn_gd_c (bn_cI_c fun x3 h2 => ?_)
    refine Eq.trans (be_if_eq (t := 47) bd_23_40 rfl) ?_
    refine bn_if_c ?_ ?_
    · rfl
    · refine Eq.trans (be_iconst (v := 1) bd_23_43 (by decide)) ?_
      refine Eq.trans (be_goto (t := 48) bd_23_44 rfl) ?_
      refine Eq.trans (be_istore (ls' := [some (.ref a0), some (.int a1), some (.int a2), some (.int a3), some (.int 1)]) bd_23_48 (Nat.le_of_ble_eq_true rfl) rfl) ?_
      refine Eq.trans (be_iload bd_23_50 rfl) ?_
      refine Eq.trans (be_if_eq (t := 75) bd_23_52 rfl) ?_
      refine bn_if_c ?_ ?_
      · refine Eq.trans (be_iinc (v := 1) (ls' := [some (.ref a0), some (.int a1), some (.int a2), some (.int (a3 + 1)), some (.int 1)]) bd_23_75 rfl (by decide) (Nat.le_of_ble_eq_true rfl) rfl) ?_
        refine Eq.trans (be_goto (t := 2) bd_23_78 rfl) ?_
        rfl
      · refine Eq.trans (be_aload_n bd_23_55 rfl) ?_
        refine Eq.trans (be_getR bd_23_56 bf_0_45 rfl (Or.inl ⟨_, rfl⟩)) ?_
        refine bn_gR_c fun p4 => ?_
        refine Eq.trans (be_iload_n bd_23_59 rfl) ?_
        refine Eq.trans (be_iaload bd_23_60) ?_
        refine bn_bd_c fun x5 => ?_
        refine Eq.trans (be_iload_n bd_23_61 rfl) ?_
        refine Eq.trans (be_icmp_ge (t := 75) bd_23_62 rfl) ?_
        refine bn_if_c ?_ ?_
        · refine Eq.trans (be_iinc (v := 1) (ls' := [some (.ref a0), some (.int a1), some (.int a2), some (.int (a3 + 1)), some (.int 1)]) bd_23_75 rfl (by decide) (Nat.le_of_ble_eq_true rfl) rfl) ?_
          refine Eq.trans (be_goto (t := 2) bd_23_78 rfl) ?_
          rfl
        · refine Eq.trans (be_aload_n bd_23_65 rfl) ?_
          refine Eq.trans (be_iload_n bd_23_66 rfl) ?_
          refine Eq.trans (be_virtI (as := [.int a3]) (rr := []) (en := [some (.ref a0), some (.int a3)]) bd_23_67 bm_0_87 rfl rfl rfl ⟨Nat.le_of_ble_eq_true rfl, Nat.le_of_ble_eq_true rfl, Nat.le_of_ble_eq_true rfl, Nat.le_of_ble_eq_true rfl⟩ (Or.inr rfl)) ?_
          refine bn_gd_c (bn_cI_c fun x7 h6 => ?_)
          refine Eq.trans (be_if_ne (t := 75) bd_23_70 rfl) ?_
          refine bn_if_c ?_ ?_
          · refine Eq.trans (be_iconst (v := 1) bd_23_73 (by decide)) ?_
            exact be_z0 bd_23_74 rfl (Or.inr rfl)
          · refine Eq.trans (be_iinc (v := 1) (ls' := [some (.ref a0), some (.int a1), some (.int a2), some (.int (a3 + 1)), some (.int 1)]) bd_23_75 rfl (by decide) (Nat.le_of_ble_eq_true rfl) rfl) ?_
            refine Eq.trans (be_goto (t := 2) bd_23_78 rfl) ?_
            rfl
  · rfl
theorem bs_X0_lawForbids_47 (a0 : Nat) (a1 : Int32) (a2 : Int32) (a3 : Int32) (o4 : Option Value) (h : bn_H) : bn_ev 23 47 [some (.ref a0), some (.int a1), some (.int a2), some (.int a3), o4] [] h = if (0 : Int32) = 0 then (bn_ev 23 2 [some (.ref a0), some (.int a1), some (.int a2), some (.int (a3 + 1)), some (.int 0)] [] h) else (bn_gR h a0 0 10 (fun p1 => (bn_ld h p1 0 a3).bind (fun x2 => if a2 ≤ x2 then (bn_ev 23 2 [some (.ref a0), some (.int a1), some (.int a2), some (.int (a3 + 1)), some (.int 0)] [] h) else (bn_gd (bn_isC h a0 0) (bn_cI (bn_ev 8 0 [some (.ref a0), some (.int a3)] [] h) (fun x4 h3 => if x4 = 0 then (some (some (.int 1), h3)) else (bn_ev 23 2 [some (.ref a0), some (.int a1), some (.int a2), some (.int (a3 + 1)), some (.int 0)] [] h3))))))) := by
  refine Eq.trans (be_iconst (v := 0) bd_23_47 (by decide)) ?_
  refine Eq.trans (be_istore (ls' := [some (.ref a0), some (.int a1), some (.int a2), some (.int a3), some (.int 0)]) bd_23_48 (Nat.le_of_ble_eq_true rfl) rfl) ?_
  refine Eq.trans (be_iload bd_23_50 rfl) ?_
  refine Eq.trans (be_if_eq (t := 75) bd_23_52 rfl) ?_
  refine bn_if_c ?_ ?_
  · refine Eq.trans (be_iinc (v := 1) (ls' := [some (.ref a0), some (.int a1), some (.int a2), some (.int (a3 + 1)), some (.int 0)]) bd_23_75 rfl (by decide) (Nat.le_of_ble_eq_true rfl) rfl) ?_
    refine Eq.trans (be_goto (t := 2) bd_23_78 rfl) ?_
    rfl
  · refine Eq.trans (be_aload_n bd_23_55 rfl) ?_
    refine Eq.trans (be_getR bd_23_56 bf_0_45 rfl (Or.inl ⟨_, rfl⟩)) ?_
    refine bn_gR_c fun p1 => ?_
    refine Eq.trans (be_iload_n bd_23_59 rfl) ?_
    refine Eq.trans (be_iaload bd_23_60) ?_
    refine bn_bd_c fun x2 => ?_
    refine Eq.trans (be_iload_n bd_23_61 rfl) ?_
    refine Eq.trans (be_icmp_ge (t := 75) bd_23_62 rfl) ?_
    refine bn_if_c ?_ ?_
    · refine Eq.trans (be_iinc (v := 1) (ls' := [some (.ref a0), some (.int a1), some (.int a2), some (.int (a3 + 1)), some (.int 0)]) bd_23_75 rfl (by decide) (Nat.le_of_ble_eq_true rfl) rfl) ?_
      refine Eq.trans (be_goto (t := 2) bd_23_78 rfl) ?_
      rfl
    · refine Eq.trans (be_aload_n bd_23_65 rfl) ?_
      refine Eq.trans (be_iload_n bd_23_66 rfl) ?_
      refine Eq.trans (be_virtI (as := [.int a3]) (rr := []) (en := [some (.ref a0), some (.int a3)]) bd_23_67 bm_0_87 rfl rfl rfl ⟨Nat.le_of_ble_eq_true rfl, Nat.le_of_ble_eq_true rfl, Nat.le_of_ble_eq_true rfl, Nat.le_of_ble_eq_true rfl⟩ (Or.inr rfl)) ?_
      refine bn_gd_c (bn_cI_c fun x4 h3 => ?_)
      refine Eq.trans (be_if_ne (t := 75) bd_23_70 rfl) ?_
      refine bn_if_c ?_ ?_
      · refine Eq.trans (be_iconst (v := 1) bd_23_73 (by decide)) ?_
        exact be_z0 bd_23_74 rfl (Or.inr rfl)
      · refine Eq.trans (be_iinc (v := 1) (ls' := [some (.ref a0), some (.int a1), some (.int a2), some (.int (a3 + 1)), some (.int 0)]) bd_23_75 rfl (by decide) (Nat.le_of_ble_eq_true rfl) rfl) ?_
        refine Eq.trans (be_goto (t := 2) bd_23_78 rfl) ?_
        rfl
theorem bs_X0_feed_0 (a0 : Nat) (a1 : Int32) (a2 : Int32) (h : bn_H) : bn_ev 24 0 [some (.ref a0), some (.int a1), some (.int a2)] [] h = bn_gR h a0 0 6 (fun p1 => (bn_sd h p1 0 a1 0).bind (fun h2 => bn_gR h2 a0 0 7 (fun p3 => (bn_sd h2 p3 1 a1 (vp_nar .boolean 1)).bind (fun h4 => bn_gR h4 a0 0 8 (fun p5 => (bn_ld h4 p5 0 a1).bind (fun x6 => (bn_sd h4 p5 0 a1 (x6 + 1)).bind (fun h7 => bn_gR h7 a0 0 11 (fun p8 => (bn_sd h7 p8 0 a2 20).bind (fun h9 => bn_gR h9 a0 0 13 (fun p10 => (bn_sd h9 p10 0 a2 a1).bind (fun h11 => bn_gR h11 a0 0 14 (fun p12 => bn_gI h11 a0 0 3 (fun x13 => (bn_sd h11 p12 0 a2 x13).bind (fun h14 => some (none, h14))))))))))))))) := by
  refine Eq.trans (be_aload_n bd_24_0 rfl) ?_
  refine Eq.trans (be_getR bd_24_1 bf_0_31 rfl (Or.inl ⟨_, rfl⟩)) ?_
  refine bn_gR_c fun p1 => ?_
  refine Eq.trans (be_iload_n bd_24_4 rfl) ?_
  refine Eq.trans (be_iconst (v := 0) bd_24_5 (by decide)) ?_
  refine Eq.trans (be_iastore bd_24_6) ?_
  refine bn_bd_c fun h2 => ?_
  refine Eq.trans (be_aload_n bd_24_7 rfl) ?_
  refine Eq.trans (be_getR bd_24_8 bf_0_35 rfl (Or.inl ⟨_, rfl⟩)) ?_
  refine bn_gR_c fun p3 => ?_
  refine Eq.trans (be_iload_n bd_24_11 rfl) ?_
  refine Eq.trans (be_iconst (v := 1) bd_24_12 (by decide)) ?_
  refine Eq.trans (be_bastore bd_24_13) ?_
  refine bn_bd_c fun h4 => ?_
  refine Eq.trans (be_aload_n bd_24_14 rfl) ?_
  refine Eq.trans (be_getR bd_24_15 bf_0_39 rfl (Or.inl ⟨_, rfl⟩)) ?_
  refine bn_gR_c fun p5 => ?_
  refine Eq.trans (be_iload_n bd_24_18 rfl) ?_
  refine Eq.trans (be_dup2 bd_24_19 ⟨rfl, rfl⟩) ?_
  refine Eq.trans (be_iaload bd_24_20) ?_
  refine bn_bd_c fun x6 => ?_
  refine Eq.trans (be_iconst (v := 1) bd_24_21 (by decide)) ?_
  refine Eq.trans (be_iadd bd_24_22) ?_
  refine Eq.trans (be_iastore bd_24_23) ?_
  refine bn_bd_c fun h7 => ?_
  refine Eq.trans (be_aload_n bd_24_24 rfl) ?_
  refine Eq.trans (be_getR bd_24_25 bf_0_48 rfl (Or.inl ⟨_, rfl⟩)) ?_
  refine bn_gR_c fun p8 => ?_
  refine Eq.trans (be_iload_n bd_24_28 rfl) ?_
  refine Eq.trans (be_bipush (v := 20) bd_24_29 (by decide)) ?_
  refine Eq.trans (be_iastore bd_24_31) ?_
  refine bn_bd_c fun h9 => ?_
  refine Eq.trans (be_aload_n bd_24_32 rfl) ?_
  refine Eq.trans (be_getR bd_24_33 bf_0_54 rfl (Or.inl ⟨_, rfl⟩)) ?_
  refine bn_gR_c fun p10 => ?_
  refine Eq.trans (be_iload_n bd_24_36 rfl) ?_
  refine Eq.trans (be_iload_n bd_24_37 rfl) ?_
  refine Eq.trans (be_iastore bd_24_38) ?_
  refine bn_bd_c fun h11 => ?_
  refine Eq.trans (be_aload_n bd_24_39 rfl) ?_
  refine Eq.trans (be_getR bd_24_40 bf_0_57 rfl (Or.inl ⟨_, rfl⟩)) ?_
  refine bn_gR_c fun p12 => ?_
  refine Eq.trans (be_iload_n bd_24_43 rfl) ?_
  refine Eq.trans (be_aload_n bd_24_44 rfl) ?_
  refine Eq.trans (be_getI bd_24_45 bf_0_21 rfl) ?_
  refine bn_gI_c fun x13 => ?_
  refine Eq.trans (be_iastore bd_24_48) ?_
  refine bn_bd_c fun h14 => ?_
  exact be_return bd_24_49 rfl
theorem bs_X0_passDay_0 (a0 : Nat) (h : bn_H) : bn_ev 25 0 [some (.ref a0), none, none] [] h = bn_ev 25 4 [some (.ref a0), some (.int 0), some (.int 0)] [] h := by
  refine Eq.trans (be_iconst (v := 0) bd_25_0 (by decide)) ?_
  refine Eq.trans (be_istore_n (ls' := [some (.ref a0), some (.int 0), none]) bd_25_1 (Nat.le_of_ble_eq_true rfl) rfl) ?_
  refine Eq.trans (be_iconst (v := 0) bd_25_2 (by decide)) ?_
  refine Eq.trans (be_istore_n (ls' := [some (.ref a0), some (.int 0), some (.int 0)]) bd_25_3 (Nat.le_of_ble_eq_true rfl) rfl) ?_
  rfl
theorem bs_X0_passDay_4 (a0 : Nat) (a1 : Int32) (a2 : Int32) (h : bn_H) : bn_ev 25 4 [some (.ref a0), some (.int a1), some (.int a2)] [] h = bn_gI h a0 0 5 (fun x1 => if x1 ≤ a2 then (bn_ev 25 73 [some (.ref a0), some (.int a1), some (.int 0)] [] h) else (bn_gd (bn_isC h a0 0) (bn_cI (bn_ev 7 0 [some (.ref a0), some (.int a2)] [] h) (fun x3 h2 => if x3 = 0 then (bn_gR h2 a0 0 7 (fun p4 => (bn_sd h2 p4 1 a2 (vp_nar .boolean 0)).bind (fun h5 => bn_ev 25 4 [some (.ref a0), some (.int a1), some (.int (a2 + 1))] [] h5))) else (bn_gR h2 a0 0 7 (fun p6 => (bn_ld h2 p6 1 a2).bind (fun x7 => if x7 = 0 then (bn_gR h2 a0 0 6 (fun p8 => (bn_ld h2 p8 0 a2).bind (fun x9 => (bn_sd h2 p8 0 a2 (x9 + 1)).bind (fun h10 => bn_gd (bn_isC h10 a0 0) (bn_cI (bn_ev 7 0 [some (.ref a0), some (.int a2)] [] h10) (fun x12 h11 => if x12 = 0 then (bn_gd (bn_isC h11 a0 0) (bn_cV (bn_ev 26 0 [some (.ref a0), some (.int a2), none] [] h11) (fun h13 => bn_gR h13 a0 0 7 (fun p15 => (bn_sd h13 p15 1 a2 (vp_nar .boolean 0)).bind (fun h16 => bn_ev 25 4 [some (.ref a0), some (.int (a1 ||| (bn_shl 1 a2))), some (.int (a2 + 1))] [] h16))))) else (bn_gR h11 a0 0 7 (fun p17 => (bn_sd h11 p17 1 a2 (vp_nar .boolean 0)).bind (fun h18 => bn_ev 25 4 [some (.ref a0), some (.int a1), some (.int (a2 + 1))] [] h18))))))))) else (bn_gR h2 a0 0 7 (fun p19 => (bn_sd h2 p19 1 a2 (vp_nar .boolean 0)).bind (fun h20 => bn_ev 25 4 [some (.ref a0), some (.int a1), some (.int (a2 + 1))] [] h20)))))))))) := by
  refine Eq.trans (be_iload_n bd_25_4 rfl) ?_
  refine Eq.trans (be_aload_n bd_25_5 rfl) ?_
  refine Eq.trans (be_getI bd_25_6 bf_0_28 rfl) ?_
  refine bn_gI_c fun x1 => ?_
  refine Eq.trans (be_icmp_ge (t := 71) bd_25_9 rfl) ?_
  refine bn_if_c ?_ ?_
  · refine Eq.trans (be_iconst (v := 0) bd_25_71 (by decide)) ?_
    refine Eq.trans (be_istore_n (ls' := [some (.ref a0), some (.int a1), some (.int 0)]) bd_25_72 (Nat.le_of_ble_eq_true rfl) rfl) ?_
    rfl
  · refine Eq.trans (be_aload_n bd_25_12 rfl) ?_
    refine Eq.trans (be_iload_n bd_25_13 rfl) ?_
    refine Eq.trans (be_virtI (as := [.int a2]) (rr := []) (en := [some (.ref a0), some (.int a2)]) bd_25_14 bm_0_66 rfl rfl rfl ⟨Nat.le_of_ble_eq_true rfl, Nat.le_of_ble_eq_true rfl, Nat.le_of_ble_eq_true rfl, Nat.le_of_ble_eq_true rfl⟩ (Or.inr rfl)) ?_
    refine bn_gd_c (bn_cI_c fun x3 h2 => ?_)
    refine Eq.trans (be_if_eq (t := 58) bd_25_17 rfl) ?_
    refine bn_if_c ?_ ?_
    · refine Eq.trans (be_aload_n bd_25_58 rfl) ?_
      refine Eq.trans (be_getR bd_25_59 bf_0_35 rfl (Or.inl ⟨_, rfl⟩)) ?_
      refine bn_gR_c fun p4 => ?_
      refine Eq.trans (be_iload_n bd_25_62 rfl) ?_
      refine Eq.trans (be_iconst (v := 0) bd_25_63 (by decide)) ?_
      refine Eq.trans (be_bastore bd_25_64) ?_
      refine bn_bd_c fun h5 => ?_
      refine Eq.trans (be_iinc (v := 1) (ls' := [some (.ref a0), some (.int a1), some (.int (a2 + 1))]) bd_25_65 rfl (by decide) (Nat.le_of_ble_eq_true rfl) rfl) ?_
      refine Eq.trans (be_goto (t := 4) bd_25_68 rfl) ?_
      rfl
    · refine Eq.trans (be_aload_n bd_25_20 rfl) ?_
      refine Eq.trans (be_getR bd_25_21 bf_0_35 rfl (Or.inl ⟨_, rfl⟩)) ?_
      refine bn_gR_c fun p6 => ?_
      refine Eq.trans (be_iload_n bd_25_24 rfl) ?_
      refine Eq.trans (be_baload bd_25_25) ?_
      refine bn_bd_c fun x7 => ?_
      refine Eq.trans (be_if_ne (t := 58) bd_25_26 rfl) ?_
      refine bn_if_c ?_ ?_
      · refine Eq.trans (be_aload_n bd_25_29 rfl) ?_
        refine Eq.trans (be_getR bd_25_30 bf_0_31 rfl (Or.inl ⟨_, rfl⟩)) ?_
        refine bn_gR_c fun p8 => ?_
        refine Eq.trans (be_iload_n bd_25_33 rfl) ?_
        refine Eq.trans (be_dup2 bd_25_34 ⟨rfl, rfl⟩) ?_
        refine Eq.trans (be_iaload bd_25_35) ?_
        refine bn_bd_c fun x9 => ?_
        refine Eq.trans (be_iconst (v := 1) bd_25_36 (by decide)) ?_
        refine Eq.trans (be_iadd bd_25_37) ?_
        refine Eq.trans (be_iastore bd_25_38) ?_
        refine bn_bd_c fun h10 => ?_
        refine Eq.trans (be_aload_n bd_25_39 rfl) ?_
        refine Eq.trans (be_iload_n bd_25_40 rfl) ?_
        refine Eq.trans (be_virtI (as := [.int a2]) (rr := []) (en := [some (.ref a0), some (.int a2)]) bd_25_41 bm_0_66 rfl rfl rfl ⟨Nat.le_of_ble_eq_true rfl, Nat.le_of_ble_eq_true rfl, Nat.le_of_ble_eq_true rfl, Nat.le_of_ble_eq_true rfl⟩ (Or.inr rfl)) ?_
        refine bn_gd_c (bn_cI_c fun x12 h11 => ?_)
        refine Eq.trans (be_if_ne (t := 58) bd_25_44 rfl) ?_
        refine bn_if_c ?_ ?_
        · refine Eq.trans (be_iload_n bd_25_47 rfl) ?_
          refine Eq.trans (be_iconst (v := 1) bd_25_48 (by decide)) ?_
          refine Eq.trans (be_iload_n bd_25_49 rfl) ?_
          refine Eq.trans (be_ishl bd_25_50) ?_
          refine Eq.trans (be_ior bd_25_51) ?_
          refine Eq.trans (be_istore_n (ls' := [some (.ref a0), some (.int (a1 ||| (bn_shl 1 a2))), some (.int a2)]) bd_25_52 (Nat.le_of_ble_eq_true rfl) rfl) ?_
          refine Eq.trans (be_aload_n bd_25_53 rfl) ?_
          refine Eq.trans (be_iload_n bd_25_54 rfl) ?_
          refine Eq.trans (be_virtV (as := [.int a2]) (rr := []) (en := [some (.ref a0), some (.int a2), none]) bd_25_55 bm_0_105 rfl rfl rfl ⟨Nat.le_of_ble_eq_true rfl, Nat.le_of_ble_eq_true rfl, Nat.le_of_ble_eq_true rfl, Nat.le_of_ble_eq_true rfl⟩ rfl) ?_
          refine bn_gd_c (bn_cV_c fun h13 => ?_)
          refine Eq.trans (be_aload_n bd_25_58 rfl) ?_
          refine Eq.trans (be_getR bd_25_59 bf_0_35 rfl (Or.inl ⟨_, rfl⟩)) ?_
          refine bn_gR_c fun p15 => ?_
          refine Eq.trans (be_iload_n bd_25_62 rfl) ?_
          refine Eq.trans (be_iconst (v := 0) bd_25_63 (by decide)) ?_
          refine Eq.trans (be_bastore bd_25_64) ?_
          refine bn_bd_c fun h16 => ?_
          refine Eq.trans (be_iinc (v := 1) (ls' := [some (.ref a0), some (.int (a1 ||| (bn_shl 1 a2))), some (.int (a2 + 1))]) bd_25_65 rfl (by decide) (Nat.le_of_ble_eq_true rfl) rfl) ?_
          refine Eq.trans (be_goto (t := 4) bd_25_68 rfl) ?_
          rfl
        · refine Eq.trans (be_aload_n bd_25_58 rfl) ?_
          refine Eq.trans (be_getR bd_25_59 bf_0_35 rfl (Or.inl ⟨_, rfl⟩)) ?_
          refine bn_gR_c fun p17 => ?_
          refine Eq.trans (be_iload_n bd_25_62 rfl) ?_
          refine Eq.trans (be_iconst (v := 0) bd_25_63 (by decide)) ?_
          refine Eq.trans (be_bastore bd_25_64) ?_
          refine bn_bd_c fun h18 => ?_
          refine Eq.trans (be_iinc (v := 1) (ls' := [some (.ref a0), some (.int a1), some (.int (a2 + 1))]) bd_25_65 rfl (by decide) (Nat.le_of_ble_eq_true rfl) rfl) ?_
          refine Eq.trans (be_goto (t := 4) bd_25_68 rfl) ?_
          rfl
      · refine Eq.trans (be_aload_n bd_25_58 rfl) ?_
        refine Eq.trans (be_getR bd_25_59 bf_0_35 rfl (Or.inl ⟨_, rfl⟩)) ?_
        refine bn_gR_c fun p19 => ?_
        refine Eq.trans (be_iload_n bd_25_62 rfl) ?_
        refine Eq.trans (be_iconst (v := 0) bd_25_63 (by decide)) ?_
        refine Eq.trans (be_bastore bd_25_64) ?_
        refine bn_bd_c fun h20 => ?_
        refine Eq.trans (be_iinc (v := 1) (ls' := [some (.ref a0), some (.int a1), some (.int (a2 + 1))]) bd_25_65 rfl (by decide) (Nat.le_of_ble_eq_true rfl) rfl) ?_
        refine Eq.trans (be_goto (t := 4) bd_25_68 rfl) ?_
        rfl
theorem bs_X0_passDay_73 (a0 : Nat) (a1 : Int32) (a2 : Int32) (h : bn_H) : bn_ev 25 73 [some (.ref a0), some (.int a1), some (.int a2)] [] h = bn_gI h a0 0 9 (fun x1 => if x1 ≤ a2 then (bn_gI h a0 0 3 (fun x2 => (bn_pf h a0 0 3 (.int (x2 + 1))).bind (fun h3 => some (some (.int a1), h3)))) else (bn_gR h a0 0 11 (fun p4 => (bn_ld h p4 0 a2).bind (fun x5 => if x5 = 20 then (bn_ev 25 73 [some (.ref a0), some (.int a1), some (.int (a2 + 1))] [] h) else (bn_gR h a0 0 12 (fun p6 => bn_gR h a0 0 12 (fun p7 => (bn_ld h p7 0 a2).bind (fun x8 => (bn_sd h p6 0 a2 (if 99 < (x8 + 1) then 99 else (x8 + 1))).bind (fun h9 => bn_ev 25 73 [some (.ref a0), some (.int a1), some (.int (a2 + 1))] [] h9))))))))) := by
  refine Eq.trans (be_iload_n bd_25_73 rfl) ?_
  refine Eq.trans (be_aload_n bd_25_74 rfl) ?_
  refine Eq.trans (be_getI bd_25_75 bf_0_42 rfl) ?_
  refine bn_gI_c fun x1 => ?_
  refine Eq.trans (be_icmp_ge (t := 117) bd_25_78 rfl) ?_
  refine bn_if_c ?_ ?_
  · refine Eq.trans (be_aload_n bd_25_117 rfl) ?_
    refine Eq.trans (be_dup bd_25_118 rfl) ?_
    refine Eq.trans (be_getI bd_25_119 bf_0_21 rfl) ?_
    refine bn_gI_c fun x2 => ?_
    refine Eq.trans (be_iconst (v := 1) bd_25_122 (by decide)) ?_
    refine Eq.trans (be_iadd bd_25_123) ?_
    refine Eq.trans (be_putI bd_25_124 bf_0_21 rfl rfl) ?_
    refine bn_bd_c fun h3 => ?_
    refine Eq.trans (be_iload_n bd_25_127 rfl) ?_
    exact be_ireturn bd_25_128 rfl
  · refine Eq.trans (be_aload_n bd_25_81 rfl) ?_
    refine Eq.trans (be_getR bd_25_82 bf_0_48 rfl (Or.inl ⟨_, rfl⟩)) ?_
    refine bn_gR_c fun p4 => ?_
    refine Eq.trans (be_iload_n bd_25_85 rfl) ?_
    refine Eq.trans (be_iaload bd_25_86) ?_
    refine bn_bd_c fun x5 => ?_
    refine Eq.trans (be_bipush (v := 20) bd_25_87 (by decide)) ?_
    refine Eq.trans (be_icmp_eq (t := 111) bd_25_89 rfl) ?_
    refine bn_if_c ?_ ?_
    · refine Eq.trans (be_iinc (v := 1) (ls' := [some (.ref a0), some (.int a1), some (.int (a2 + 1))]) bd_25_111 rfl (by decide) (Nat.le_of_ble_eq_true rfl) rfl) ?_
      refine Eq.trans (be_goto (t := 73) bd_25_114 rfl) ?_
      rfl
    · refine Eq.trans (be_aload_n bd_25_92 rfl) ?_
      refine Eq.trans (be_getR bd_25_93 bf_0_51 rfl (Or.inl ⟨_, rfl⟩)) ?_
      refine bn_gR_c fun p6 => ?_
      refine Eq.trans (be_iload_n bd_25_96 rfl) ?_
      refine Eq.trans (be_aload_n bd_25_97 rfl) ?_
      refine Eq.trans (be_getR bd_25_98 bf_0_51 rfl (Or.inl ⟨_, rfl⟩)) ?_
      refine bn_gR_c fun p7 => ?_
      refine Eq.trans (be_iload_n bd_25_101 rfl) ?_
      refine Eq.trans (be_iaload bd_25_102) ?_
      refine bn_bd_c fun x8 => ?_
      refine Eq.trans (be_iconst (v := 1) bd_25_103 (by decide)) ?_
      refine Eq.trans (be_iadd bd_25_104) ?_
      refine Eq.trans (be_bipush (v := 99) bd_25_105 (by decide)) ?_
      refine Eq.trans (be_min bd_25_107 bm_0_109 ⟨Nat.le_of_ble_eq_true rfl, Nat.le_of_ble_eq_true rfl, Nat.le_of_ble_eq_true rfl⟩) ?_
      refine Eq.trans (be_iastore bd_25_110) ?_
      refine bn_bd_c fun h9 => ?_
      refine Eq.trans (be_iinc (v := 1) (ls' := [some (.ref a0), some (.int a1), some (.int (a2 + 1))]) bd_25_111 rfl (by decide) (Nat.le_of_ble_eq_true rfl) rfl) ?_
      refine Eq.trans (be_goto (t := 73) bd_25_114 rfl) ?_
      rfl
theorem bs_X0_leaveToPriest_0 (a0 : Nat) (a1 : Int32) (h : bn_H) : bn_ev 26 0 [some (.ref a0), some (.int a1), none] [] h = bn_ev 26 2 [some (.ref a0), some (.int a1), some (.int 0)] [] h := by
  refine Eq.trans (be_iconst (v := 0) bd_26_0 (by decide)) ?_
  refine Eq.trans (be_istore_n (ls' := [some (.ref a0), some (.int a1), some (.int 0)]) bd_26_1 (Nat.le_of_ble_eq_true rfl) rfl) ?_
  rfl
theorem bs_X0_leaveToPriest_2 (a0 : Nat) (a1 : Int32) (a2 : Int32) (h : bn_H) : bn_ev 26 2 [some (.ref a0), some (.int a1), some (.int a2)] [] h = bn_gI h a0 0 9 (fun x1 => if x1 ≤ a2 then (some (none, h)) else (bn_gR h a0 0 11 (fun p2 => (bn_ld h p2 0 a2).bind (fun x3 => if x3 = a1 then (bn_gR h a0 0 11 (fun p4 => (bn_sd h p4 0 a2 10).bind (fun h5 => bn_ev 26 2 [some (.ref a0), some (.int a1), some (.int (a2 + 1))] [] h5))) else (bn_ev 26 2 [some (.ref a0), some (.int a1), some (.int (a2 + 1))] [] h))))) := by
  refine Eq.trans (be_iload_n bd_26_2 rfl) ?_
  refine Eq.trans (be_aload_n bd_26_3 rfl) ?_
  refine Eq.trans (be_getI bd_26_4 bf_0_42 rfl) ?_
  refine bn_gI_c fun x1 => ?_
  refine Eq.trans (be_icmp_ge (t := 34) bd_26_7 rfl) ?_
  refine bn_if_c ?_ ?_
  · exact be_return bd_26_34 rfl
  · refine Eq.trans (be_aload_n bd_26_10 rfl) ?_
    refine Eq.trans (be_getR bd_26_11 bf_0_48 rfl (Or.inl ⟨_, rfl⟩)) ?_
    refine bn_gR_c fun p2 => ?_
    refine Eq.trans (be_iload_n bd_26_14 rfl) ?_
    refine Eq.trans (be_iaload bd_26_15) ?_
    refine bn_bd_c fun x3 => ?_
    refine Eq.trans (be_iload_n bd_26_16 rfl) ?_
    refine Eq.trans (be_icmp_ne (t := 28) bd_26_17 rfl) ?_
    refine bn_if_c ?_ ?_
    · refine Eq.trans (be_aload_n bd_26_20 rfl) ?_
      refine Eq.trans (be_getR bd_26_21 bf_0_48 rfl (Or.inl ⟨_, rfl⟩)) ?_
      refine bn_gR_c fun p4 => ?_
      refine Eq.trans (be_iload_n bd_26_24 rfl) ?_
      refine Eq.trans (be_bipush (v := 10) bd_26_25 (by decide)) ?_
      refine Eq.trans (be_iastore bd_26_27) ?_
      refine bn_bd_c fun h5 => ?_
      refine Eq.trans (be_iinc (v := 1) (ls' := [some (.ref a0), some (.int a1), some (.int (a2 + 1))]) bd_26_28 rfl (by decide) (Nat.le_of_ble_eq_true rfl) rfl) ?_
      refine Eq.trans (be_goto (t := 2) bd_26_31 rfl) ?_
      rfl
    · refine Eq.trans (be_iinc (v := 1) (ls' := [some (.ref a0), some (.int a1), some (.int (a2 + 1))]) bd_26_28 rfl (by decide) (Nat.le_of_ble_eq_true rfl) rfl) ?_
      refine Eq.trans (be_goto (t := 2) bd_26_31 rfl) ?_
      rfl
theorem bs_X0_eatAsItIs_0 (a0 : Nat) (h : bn_H) : bn_ev 27 0 [some (.ref a0), none, none] [] h = bn_ev 27 2 [some (.ref a0), some (.int 0), none] [] h := by
  refine Eq.trans (be_iconst (v := 0) bd_27_0 (by decide)) ?_
  refine Eq.trans (be_istore_n (ls' := [some (.ref a0), some (.int 0), none]) bd_27_1 (Nat.le_of_ble_eq_true rfl) rfl) ?_
  rfl
theorem bs_X0_eatAsItIs_2 (a0 : Nat) (a1 : Int32) (o2 : Option Value) (h : bn_H) : bn_ev 27 2 [some (.ref a0), some (.int a1), o2] [] h = bn_gI h a0 0 5 (fun x1 => if x1 ≤ a1 then (some (none, h)) else (bn_gd (bn_isC h a0 0) (bn_cI (bn_ev 28 0 [some (.ref a0), some (.int a1), none, none] [] h) (fun x3 h2 => if x3 < 0 then (bn_ev 27 2 [some (.ref a0), some (.int (a1 + 1)), some (.int x3)] [] h2) else (bn_gd (bn_isC h2 a0 0) (bn_cV (bn_ev 24 0 [some (.ref a0), some (.int a1), some (.int x3)] [] h2) (fun h4 => bn_ev 27 2 [some (.ref a0), some (.int (a1 + 1)), some (.int x3)] [] h4))))))) := by
  refine Eq.trans (be_iload_n bd_27_2 rfl) ?_
  refine Eq.trans (be_aload_n bd_27_3 rfl) ?_
  refine Eq.trans (be_getI bd_27_4 bf_0_28 rfl) ?_
  refine bn_gI_c fun x1 => ?_
  refine Eq.trans (be_icmp_ge (t := 32) bd_27_7 rfl) ?_
  refine bn_if_c ?_ ?_
  · exact be_return bd_27_32 rfl
  · refine Eq.trans (be_aload_n bd_27_10 rfl) ?_
    refine Eq.trans (be_iload_n bd_27_11 rfl) ?_
    refine Eq.trans (be_virtI (as := [.int a1]) (rr := []) (en := [some (.ref a0), some (.int a1), none, none]) bd_27_12 bm_0_112 rfl rfl rfl ⟨Nat.le_of_ble_eq_true rfl, Nat.le_of_ble_eq_true rfl, Nat.le_of_ble_eq_true rfl, Nat.le_of_ble_eq_true rfl⟩ (Or.inl rfl)) ?_
    refine bn_gd_c (bn_cI_c fun x3 h2 => ?_)
    refine Eq.trans (be_istore_n (ls' := [some (.ref a0), some (.int a1), some (.int x3)]) bd_27_15 (Nat.le_of_ble_eq_true rfl) rfl) ?_
    refine Eq.trans (be_iload_n bd_27_16 rfl) ?_
    refine Eq.trans (be_if_lt (t := 26) bd_27_17 rfl) ?_
    refine bn_if_c ?_ ?_
    · refine Eq.trans (be_iinc (v := 1) (ls' := [some (.ref a0), some (.int (a1 + 1)), some (.int x3)]) bd_27_26 rfl (by decide) (Nat.le_of_ble_eq_true rfl) rfl) ?_
      refine Eq.trans (be_goto (t := 2) bd_27_29 rfl) ?_
      rfl
    · refine Eq.trans (be_aload_n bd_27_20 rfl) ?_
      refine Eq.trans (be_iload_n bd_27_21 rfl) ?_
      refine Eq.trans (be_iload_n bd_27_22 rfl) ?_
      refine Eq.trans (be_virtV (as := [.int x3, .int a1]) (rr := []) (en := [some (.ref a0), some (.int a1), some (.int x3)]) bd_27_23 bm_0_115 rfl rfl rfl ⟨Nat.le_of_ble_eq_true rfl, Nat.le_of_ble_eq_true rfl, Nat.le_of_ble_eq_true rfl, Nat.le_of_ble_eq_true rfl⟩ rfl) ?_
      refine bn_gd_c (bn_cV_c fun h4 => ?_)
      refine Eq.trans (be_iinc (v := 1) (ls' := [some (.ref a0), some (.int (a1 + 1)), some (.int x3)]) bd_27_26 rfl (by decide) (Nat.le_of_ble_eq_true rfl) rfl) ?_
      refine Eq.trans (be_goto (t := 2) bd_27_29 rfl) ?_
      rfl
theorem bs_X0_leastAllowed_0 (a0 : Nat) (a1 : Int32) (h : bn_H) : bn_ev 28 0 [some (.ref a0), some (.int a1), none, none] [] h = bn_ev 28 5 [some (.ref a0), some (.int a1), some (.int (-9)), some (.int 0)] [] h := by
  refine Eq.trans (be_bipush (v := (-9)) bd_28_0 (by decide)) ?_
  refine Eq.trans (be_istore_n (ls' := [some (.ref a0), some (.int a1), some (.int (-9)), none]) bd_28_2 (Nat.le_of_ble_eq_true rfl) rfl) ?_
  refine Eq.trans (be_iconst (v := 0) bd_28_3 (by decide)) ?_
  refine Eq.trans (be_istore_n (ls' := [some (.ref a0), some (.int a1), some (.int (-9)), some (.int 0)]) bd_28_4 (Nat.le_of_ble_eq_true rfl) rfl) ?_
  rfl
theorem bs_X0_leastAllowed_5 (a0 : Nat) (a1 : Int32) (a2 : Int32) (a3 : Int32) (h : bn_H) : bn_ev 28 5 [some (.ref a0), some (.int a1), some (.int a2), some (.int a3)] [] h = bn_gI h a0 0 9 (fun x1 => if x1 ≤ a3 then (some (some (.int a2), h)) else (bn_gd (bn_isC h a0 0) (bn_cI (bn_ev 22 0 [some (.ref a0), some (.int a1), some (.int a3)] [] h) (fun x3 h2 => if x3 = 0 then (bn_ev 28 5 [some (.ref a0), some (.int a1), some (.int a2), some (.int (a3 + 1))] [] h2) else (if a2 < 0 then (bn_ev 28 5 [some (.ref a0), some (.int a1), some (.int a3), some (.int (a3 + 1))] [] h2) else (bn_gR h2 a0 0 10 (fun p4 => (bn_ld h2 p4 0 a3).bind (fun x5 => bn_gR h2 a0 0 10 (fun p6 => (bn_ld h2 p6 0 a2).bind (fun x7 => if x7 ≤ x5 then (bn_ev 28 5 [some (.ref a0), some (.int a1), some (.int a2), some (.int (a3 + 1))] [] h2) else (bn_ev 28 5 [some (.ref a0), some (.int a1), some (.int a3), some (.int (a3 + 1))] [] h2))))))))))) := by
  refine Eq.trans (be_iload_n bd_28_5 rfl) ?_
  refine Eq.trans (be_aload_n bd_28_6 rfl) ?_
  refine Eq.trans (be_getI bd_28_7 bf_0_42 rfl) ?_
  refine bn_gI_c fun x1 => ?_
  refine Eq.trans (be_icmp_ge (t := 49) bd_28_10 rfl) ?_
  refine bn_if_c ?_ ?_
  · refine Eq.trans (be_iload_n bd_28_49 rfl) ?_
    exact be_ireturn bd_28_50 rfl
  · refine Eq.trans (be_aload_n bd_28_13 rfl) ?_
    refine Eq.trans (be_iload_n bd_28_14 rfl) ?_
    refine Eq.trans (be_iload_n bd_28_15 rfl) ?_
    refine Eq.trans (be_virtI (as := [.int a3, .int a1]) (rr := []) (en := [some (.ref a0), some (.int a1), some (.int a3)]) bd_28_16 bm_0_119 rfl rfl rfl ⟨Nat.le_of_ble_eq_true rfl, Nat.le_of_ble_eq_true rfl, Nat.le_of_ble_eq_true rfl, Nat.le_of_ble_eq_true rfl⟩ (Or.inr rfl)) ?_
    refine bn_gd_c (bn_cI_c fun x3 h2 => ?_)
    refine Eq.trans (be_if_eq (t := 43) bd_28_19 rfl) ?_
    refine bn_if_c ?_ ?_
    · refine Eq.trans (be_iinc (v := 1) (ls' := [some (.ref a0), some (.int a1), some (.int a2), some (.int (a3 + 1))]) bd_28_43 rfl (by decide) (Nat.le_of_ble_eq_true rfl) rfl) ?_
      refine Eq.trans (be_goto (t := 5) bd_28_46 rfl) ?_
      rfl
    · refine Eq.trans (be_iload_n bd_28_22 rfl) ?_
      refine Eq.trans (be_if_lt (t := 41) bd_28_23 rfl) ?_
      refine bn_if_c ?_ ?_
      · refine Eq.trans (be_iload_n bd_28_41 rfl) ?_
        refine Eq.trans (be_istore_n (ls' := [some (.ref a0), some (.int a1), some (.int a3), some (.int a3)]) bd_28_42 (Nat.le_of_ble_eq_true rfl) rfl) ?_
        refine Eq.trans (be_iinc (v := 1) (ls' := [some (.ref a0), some (.int a1), some (.int a3), some (.int (a3 + 1))]) bd_28_43 rfl (by decide) (Nat.le_of_ble_eq_true rfl) rfl) ?_
        refine Eq.trans (be_goto (t := 5) bd_28_46 rfl) ?_
        rfl
      · refine Eq.trans (be_aload_n bd_28_26 rfl) ?_
        refine Eq.trans (be_getR bd_28_27 bf_0_45 rfl (Or.inl ⟨_, rfl⟩)) ?_
        refine bn_gR_c fun p4 => ?_
        refine Eq.trans (be_iload_n bd_28_30 rfl) ?_
        refine Eq.trans (be_iaload bd_28_31) ?_
        refine bn_bd_c fun x5 => ?_
        refine Eq.trans (be_aload_n bd_28_32 rfl) ?_
        refine Eq.trans (be_getR bd_28_33 bf_0_45 rfl (Or.inl ⟨_, rfl⟩)) ?_
        refine bn_gR_c fun p6 => ?_
        refine Eq.trans (be_iload_n bd_28_36 rfl) ?_
        refine Eq.trans (be_iaload bd_28_37) ?_
        refine bn_bd_c fun x7 => ?_
        refine Eq.trans (be_icmp_ge (t := 43) bd_28_38 rfl) ?_
        refine bn_if_c ?_ ?_
        · refine Eq.trans (be_iinc (v := 1) (ls' := [some (.ref a0), some (.int a1), some (.int a2), some (.int (a3 + 1))]) bd_28_43 rfl (by decide) (Nat.le_of_ble_eq_true rfl) rfl) ?_
          refine Eq.trans (be_goto (t := 5) bd_28_46 rfl) ?_
          rfl
        · refine Eq.trans (be_iload_n bd_28_41 rfl) ?_
          refine Eq.trans (be_istore_n (ls' := [some (.ref a0), some (.int a1), some (.int a3), some (.int a3)]) bd_28_42 (Nat.le_of_ble_eq_true rfl) rfl) ?_
          refine Eq.trans (be_iinc (v := 1) (ls' := [some (.ref a0), some (.int a1), some (.int a3), some (.int (a3 + 1))]) bd_28_43 rfl (by decide) (Nat.le_of_ble_eq_true rfl) rfl) ?_
          refine Eq.trans (be_goto (t := 5) bd_28_46 rfl) ?_
          rfl
theorem bs_X0_canAllLive_0 (a0 : Nat) (a1 : Int32) (h : bn_H) : bn_ev 29 0 [some (.ref a0), some (.int a1), none, none] [] h = bn_gI h a0 0 1 (fun x1 => bn_ev 29 11 [some (.ref a0), some (.int a1), some (.int ((a1 - x1) - 1)), some (.int 0)] [] h) := by
  refine Eq.trans (be_iload_n bd_29_0 rfl) ?_
  refine Eq.trans (be_aload_n bd_29_1 rfl) ?_
  refine Eq.trans (be_getI bd_29_2 bf_0_15 rfl) ?_
  refine bn_gI_c fun x1 => ?_
  refine Eq.trans (be_isub bd_29_5) ?_
  refine Eq.trans (be_iconst (v := 1) bd_29_6 (by decide)) ?_
  refine Eq.trans (be_isub bd_29_7) ?_
  refine Eq.trans (be_istore_n (ls' := [some (.ref a0), some (.int a1), some (.int ((a1 - x1) - 1)), none]) bd_29_8 (Nat.le_of_ble_eq_true rfl) rfl) ?_
  refine Eq.trans (be_iconst (v := 0) bd_29_9 (by decide)) ?_
  refine Eq.trans (be_istore_n (ls' := [some (.ref a0), some (.int a1), some (.int ((a1 - x1) - 1)), some (.int 0)]) bd_29_10 (Nat.le_of_ble_eq_true rfl) rfl) ?_
  rfl
theorem bs_X0_canAllLive_11 (a0 : Nat) (a1 : Int32) (a2 : Int32) (a3 : Int32) (h : bn_H) : bn_ev 29 11 [some (.ref a0), some (.int a1), some (.int a2), some (.int a3)] [] h = if (if a2 < 0 then 0 else a2) < a3 then (some (some (.int 1), h)) else (bn_gd (bn_isC h a0 0) (bn_cI (bn_ev 30 0 [some (.ref a0), some (.int a2), some (.int a3), none, none, none, none, none] [] h) (fun x2 h1 => bn_gd (bn_isC h1 a0 0) (bn_cI (bn_ev 31 0 [some (.ref a0), some (.int a3), none, none] [] h1) (fun x4 h3 => if x2 ≤ x4 then (bn_ev 29 11 [some (.ref a0), some (.int a1), some (.int a2), some (.int (a3 + 1))] [] h3) else (some (some (.int 0), h3))))))) := by
  refine Eq.trans (be_iload_n bd_29_11 rfl) ?_
  refine Eq.trans (be_iload_n bd_29_12 rfl) ?_
  refine Eq.trans (be_iconst (v := 0) bd_29_13 (by decide)) ?_
  refine Eq.trans (be_max bd_29_14 bm_0_90 ⟨Nat.le_of_ble_eq_true rfl, Nat.le_of_ble_eq_true rfl, Nat.le_of_ble_eq_true rfl⟩) ?_
  refine Eq.trans (be_icmp_gt (t := 42) bd_29_17 rfl) ?_
  refine bn_if_c ?_ ?_
  · refine Eq.trans (be_iconst (v := 1) bd_29_42 (by decide)) ?_
    exact be_z0 bd_29_43 rfl (Or.inr rfl)
  · refine Eq.trans (be_aload_n bd_29_20 rfl) ?_
    refine Eq.trans (be_iload_n bd_29_21 rfl) ?_
    refine Eq.trans (be_iload_n bd_29_22 rfl) ?_
    refine Eq.trans (be_virtI (as := [.int a3, .int a2]) (rr := []) (en := [some (.ref a0), some (.int a2), some (.int a3), none, none, none, none, none]) bd_29_23 bm_0_122 rfl rfl rfl ⟨Nat.le_of_ble_eq_true rfl, Nat.le_of_ble_eq_true rfl, Nat.le_of_ble_eq_true rfl, Nat.le_of_ble_eq_true rfl⟩ (Or.inl rfl)) ?_
    refine bn_gd_c (bn_cI_c fun x2 h1 => ?_)
    refine Eq.trans (be_aload_n bd_29_26 rfl) ?_
    refine Eq.trans (be_iload_n bd_29_27 rfl) ?_
    refine Eq.trans (be_virtI (as := [.int a3]) (rr := [.int x2]) (en := [some (.ref a0), some (.int a3), none, none]) bd_29_28 bm_0_125 rfl rfl rfl ⟨Nat.le_of_ble_eq_true rfl, Nat.le_of_ble_eq_true rfl, Nat.le_of_ble_eq_true rfl, Nat.le_of_ble_eq_true rfl⟩ (Or.inl rfl)) ?_
    refine bn_gd_c (bn_cI_c fun x4 h3 => ?_)
    refine Eq.trans (be_icmp_le (t := 36) bd_29_31 rfl) ?_
    refine bn_if_c ?_ ?_
    · refine Eq.trans (be_iinc (v := 1) (ls' := [some (.ref a0), some (.int a1), some (.int a2), some (.int (a3 + 1))]) bd_29_36 rfl (by decide) (Nat.le_of_ble_eq_true rfl) rfl) ?_
      refine Eq.trans (be_goto (t := 11) bd_29_39 rfl) ?_
      rfl
    · refine Eq.trans (be_iconst (v := 0) bd_29_34 (by decide)) ?_
      exact be_z0 bd_29_35 rfl (Or.inl rfl)
theorem bs_X0_mealsDue_0 (a0 : Nat) (a1 : Int32) (a2 : Int32) (h : bn_H) : bn_ev 30 0 [some (.ref a0), some (.int a1), some (.int a2), none, none, none, none, none] [] h = bn_ev 30 5 [some (.ref a0), some (.int a1), some (.int a2), some (.int 0), some (.int 0), none, none, none] [] h := by
  refine Eq.trans (be_iconst (v := 0) bd_30_0 (by decide)) ?_
  refine Eq.trans (be_istore_n (ls' := [some (.ref a0), some (.int a1), some (.int a2), some (.int 0), none, none, none, none]) bd_30_1 (Nat.le_of_ble_eq_true rfl) rfl) ?_
  refine Eq.trans (be_iconst (v := 0) bd_30_2 (by decide)) ?_
  refine Eq.trans (be_istore (ls' := [some (.ref a0), some (.int a1), some (.int a2), some (.int 0), some (.int 0), none, none, none]) bd_30_3 (Nat.le_of_ble_eq_true rfl) rfl) ?_
  rfl
theorem bs_X0_mealsDue_5 (a0 : Nat) (a1 : Int32) (a2 : Int32) (a3 : Int32) (a4 : Int32) (o5 : Option Value) (o6 : Option Value) (o7 : Option Value) (h : bn_H) : bn_ev 30 5 [some (.ref a0), some (.int a1), some (.int a2), some (.int a3), some (.int a4), o5, o6, o7] [] h = bn_gI h a0 0 5 (fun x1 => if x1 ≤ a4 then (some (some (.int a3), h)) else (bn_gd (bn_isC h a0 0) (bn_cI (bn_ev 7 0 [some (.ref a0), some (.int a4)] [] h) (fun x3 h2 => if x3 = 0 then (bn_ev 30 5 [some (.ref a0), some (.int a1), some (.int a2), some (.int a3), some (.int (a4 + 1)), o5, o6, o7] [] h2) else (bn_gR h2 a0 0 7 (fun p4 => (bn_ld h2 p4 1 a4).bind (fun x5 => if x5 = 0 then (bn_gR h2 a0 0 6 (fun p6 => (bn_ld h2 p6 0 a4).bind (fun x7 => bn_ev 30 54 [some (.ref a0), some (.int a1), some (.int a2), some (.int a3), some (.int a4), some (.int ((-1) - x7)), some (.int a1), some (.int 0)] [] h2))) else (bn_ev 30 54 [some (.ref a0), some (.int a1), some (.int a2), some (.int a3), some (.int a4), some (.int 0), some (.int a1), some (.int 0)] [] h2)))))))) := by
  refine Eq.trans (be_iload bd_30_5 rfl) ?_
  refine Eq.trans (be_aload_n bd_30_7 rfl) ?_
  refine Eq.trans (be_getI bd_30_8 bf_0_28 rfl) ?_
  refine bn_gI_c fun x1 => ?_
  refine Eq.trans (be_icmp_ge (t := 105) bd_30_11 rfl) ?_
  refine bn_if_c ?_ ?_
  · refine Eq.trans (be_iload_n bd_30_105 rfl) ?_
    exact be_ireturn bd_30_106 rfl
  · refine Eq.trans (be_aload_n bd_30_14 rfl) ?_
    refine Eq.trans (be_iload bd_30_15 rfl) ?_
    refine Eq.trans (be_virtI (as := [.int a4]) (rr := []) (en := [some (.ref a0), some (.int a4)]) bd_30_17 bm_0_66 rfl rfl rfl ⟨Nat.le_of_ble_eq_true rfl, Nat.le_of_ble_eq_true rfl, Nat.le_of_ble_eq_true rfl, Nat.le_of_ble_eq_true rfl⟩ (Or.inr rfl)) ?_
    refine bn_gd_c (bn_cI_c fun x3 h2 => ?_)
    refine Eq.trans (be_if_eq (t := 99) bd_30_20 rfl) ?_
    refine bn_if_c ?_ ?_
    · refine Eq.trans (be_iinc (v := 1) (ls' := [some (.ref a0), some (.int a1), some (.int a2), some (.int a3), some (.int (a4 + 1)), o5, o6, o7]) bd_30_99 rfl (by decide) (Nat.le_of_ble_eq_true rfl) rfl) ?_
      refine Eq.trans (be_goto (t := 5) bd_30_102 rfl) ?_
      rfl
    · refine Eq.trans (be_aload_n bd_30_23 rfl) ?_
      refine Eq.trans (be_getR bd_30_24 bf_0_35 rfl (Or.inl ⟨_, rfl⟩)) ?_
      refine bn_gR_c fun p4 => ?_
      refine Eq.trans (be_iload bd_30_27 rfl) ?_
      refine Eq.trans (be_baload bd_30_29) ?_
      refine bn_bd_c fun x5 => ?_
      refine Eq.trans (be_if_eq (t := 37) bd_30_30 rfl) ?_
      refine bn_if_c ?_ ?_
      · refine Eq.trans (be_iconst (v := (-1)) bd_30_37 (by decide)) ?_
        refine Eq.trans (be_aload_n bd_30_38 rfl) ?_
        refine Eq.trans (be_getR bd_30_39 bf_0_31 rfl (Or.inl ⟨_, rfl⟩)) ?_
        refine bn_gR_c fun p6 => ?_
        refine Eq.trans (be_iload bd_30_42 rfl) ?_
        refine Eq.trans (be_iaload bd_30_44) ?_
        refine bn_bd_c fun x7 => ?_
        refine Eq.trans (be_isub bd_30_45) ?_
        refine Eq.trans (be_istore (ls' := [some (.ref a0), some (.int a1), some (.int a2), some (.int a3), some (.int a4), some (.int ((-1) - x7)), o6, o7]) bd_30_46 (Nat.le_of_ble_eq_true rfl) rfl) ?_
        refine Eq.trans (be_iload_n bd_30_48 rfl) ?_
        refine Eq.trans (be_istore (ls' := [some (.ref a0), some (.int a1), some (.int a2), some (.int a3), some (.int a4), some (.int ((-1) - x7)), some (.int a1), o7]) bd_30_49 (Nat.le_of_ble_eq_true rfl) rfl) ?_
        refine Eq.trans (be_iconst (v := 0) bd_30_51 (by decide)) ?_
        refine Eq.trans (be_istore (ls' := [some (.ref a0), some (.int a1), some (.int a2), some (.int a3), some (.int a4), some (.int ((-1) - x7)), some (.int a1), some (.int 0)]) bd_30_52 (Nat.le_of_ble_eq_true rfl) rfl) ?_
        rfl
      · refine Eq.trans (be_iconst (v := 0) bd_30_33 (by decide)) ?_
        refine Eq.trans (be_goto (t := 46) bd_30_34 rfl) ?_
        refine Eq.trans (be_istore (ls' := [some (.ref a0), some (.int a1), some (.int a2), some (.int a3), some (.int a4), some (.int 0), o6, o7]) bd_30_46 (Nat.le_of_ble_eq_true rfl) rfl) ?_
        refine Eq.trans (be_iload_n bd_30_48 rfl) ?_
        refine Eq.trans (be_istore (ls' := [some (.ref a0), some (.int a1), some (.int a2), some (.int a3), some (.int a4), some (.int 0), some (.int a1), o7]) bd_30_49 (Nat.le_of_ble_eq_true rfl) rfl) ?_
        refine Eq.trans (be_iconst (v := 0) bd_30_51 (by decide)) ?_
        refine Eq.trans (be_istore (ls' := [some (.ref a0), some (.int a1), some (.int a2), some (.int a3), some (.int a4), some (.int 0), some (.int a1), some (.int 0)]) bd_30_52 (Nat.le_of_ble_eq_true rfl) rfl) ?_
        rfl
theorem bs_X0_mealsDue_54 (a0 : Nat) (a1 : Int32) (a2 : Int32) (a3 : Int32) (a4 : Int32) (a5 : Int32) (a6 : Int32) (a7 : Int32) (h : bn_H) : bn_ev 30 54 [some (.ref a0), some (.int a1), some (.int a2), some (.int a3), some (.int a4), some (.int a5), some (.int a6), some (.int a7)] [] h = if 200 ≤ a7 then (bn_ev 30 5 [some (.ref a0), some (.int a1), some (.int a2), some (.int a3), some (.int (a4 + 1)), some (.int a5), some (.int a6), some (.int a7)] [] h) else (if a6 ≤ a5 then (bn_ev 30 5 [some (.ref a0), some (.int a1), some (.int a2), some (.int a3), some (.int (a4 + 1)), some (.int a5), some (.int a6), some (.int a7)] [] h) else (if (if a6 < 0 then 0 else a6) < a2 then (bn_ev 30 82 [some (.ref a0), some (.int a1), some (.int a2), some (.int a3), some (.int a4), some (.int a5), some (.int a6), some (.int a7)] [] h) else (bn_ev 30 82 [some (.ref a0), some (.int a1), some (.int a2), some (.int (a3 + 1)), some (.int a4), some (.int a5), some (.int a6), some (.int a7)] [] h))) := by
  refine Eq.trans (be_iload bd_30_54 rfl) ?_
  refine Eq.trans (be_sipush (v := 200) bd_30_56 (by decide)) ?_
  refine Eq.trans (be_icmp_ge (t := 99) bd_30_59 rfl) ?_
  refine bn_if_c ?_ ?_
  · refine Eq.trans (be_iinc (v := 1) (ls' := [some (.ref a0), some (.int a1), some (.int a2), some (.int a3), some (.int (a4 + 1)), some (.int a5), some (.int a6), some (.int a7)]) bd_30_99 rfl (by decide) (Nat.le_of_ble_eq_true rfl) rfl) ?_
    refine Eq.trans (be_goto (t := 5) bd_30_102 rfl) ?_
    rfl
  · refine Eq.trans (be_iload bd_30_62 rfl) ?_
    refine Eq.trans (be_iload bd_30_64 rfl) ?_
    refine Eq.trans (be_icmp_le (t := 99) bd_30_66 rfl) ?_
    refine bn_if_c ?_ ?_
    · refine Eq.trans (be_iinc (v := 1) (ls' := [some (.ref a0), some (.int a1), some (.int a2), some (.int a3), some (.int (a4 + 1)), some (.int a5), some (.int a6), some (.int a7)]) bd_30_99 rfl (by decide) (Nat.le_of_ble_eq_true rfl) rfl) ?_
      refine Eq.trans (be_goto (t := 5) bd_30_102 rfl) ?_
      rfl
    · refine Eq.trans (be_iload bd_30_69 rfl) ?_
      refine Eq.trans (be_iconst (v := 0) bd_30_71 (by decide)) ?_
      refine Eq.trans (be_max bd_30_72 bm_0_90 ⟨Nat.le_of_ble_eq_true rfl, Nat.le_of_ble_eq_true rfl, Nat.le_of_ble_eq_true rfl⟩) ?_
      refine Eq.trans (be_iload_n bd_30_75 rfl) ?_
      refine Eq.trans (be_icmp_lt (t := 82) bd_30_76 rfl) ?_
      refine bn_if_c ?_ ?_
      · rfl
      · refine Eq.trans (be_iinc (v := 1) (ls' := [some (.ref a0), some (.int a1), some (.int a2), some (.int (a3 + 1)), some (.int a4), some (.int a5), some (.int a6), some (.int a7)]) bd_30_79 rfl (by decide) (Nat.le_of_ble_eq_true rfl) rfl) ?_
        rfl
theorem bs_X0_mealsDue_82 (a0 : Nat) (a1 : Int32) (a2 : Int32) (a3 : Int32) (a4 : Int32) (a5 : Int32) (a6 : Int32) (a7 : Int32) (h : bn_H) : bn_ev 30 82 [some (.ref a0), some (.int a1), some (.int a2), some (.int a3), some (.int a4), some (.int a5), some (.int a6), some (.int a7)] [] h = bn_gI h a0 0 1 (fun x1 => bn_ev 30 54 [some (.ref a0), some (.int a1), some (.int a2), some (.int a3), some (.int a4), some (.int a5), some (.int (a6 - (x1 + 1))), some (.int (a7 + 1))] [] h) := by
  refine Eq.trans (be_iload bd_30_82 rfl) ?_
  refine Eq.trans (be_aload_n bd_30_84 rfl) ?_
  refine Eq.trans (be_getI bd_30_85 bf_0_15 rfl) ?_
  refine bn_gI_c fun x1 => ?_
  refine Eq.trans (be_iconst (v := 1) bd_30_88 (by decide)) ?_
  refine Eq.trans (be_iadd bd_30_89) ?_
  refine Eq.trans (be_isub bd_30_90) ?_
  refine Eq.trans (be_istore (ls' := [some (.ref a0), some (.int a1), some (.int a2), some (.int a3), some (.int a4), some (.int a5), some (.int (a6 - (x1 + 1))), some (.int a7)]) bd_30_91 (Nat.le_of_ble_eq_true rfl) rfl) ?_
  refine Eq.trans (be_iinc (v := 1) (ls' := [some (.ref a0), some (.int a1), some (.int a2), some (.int a3), some (.int a4), some (.int a5), some (.int (a6 - (x1 + 1))), some (.int (a7 + 1))]) bd_30_93 rfl (by decide) (Nat.le_of_ble_eq_true rfl) rfl) ?_
  refine Eq.trans (be_goto (t := 54) bd_30_96 rfl) ?_
  rfl
theorem bs_X0_loavesGoodOn_0 (a0 : Nat) (a1 : Int32) (h : bn_H) : bn_ev 31 0 [some (.ref a0), some (.int a1), none, none] [] h = bn_ev 31 4 [some (.ref a0), some (.int a1), some (.int 0), some (.int 0)] [] h := by
  refine Eq.trans (be_iconst (v := 0) bd_31_0 (by decide)) ?_
  refine Eq.trans (be_istore_n (ls' := [some (.ref a0), some (.int a1), some (.int 0), none]) bd_31_1 (Nat.le_of_ble_eq_true rfl) rfl) ?_
  refine Eq.trans (be_iconst (v := 0) bd_31_2 (by decide)) ?_
  refine Eq.trans (be_istore_n (ls' := [some (.ref a0), some (.int a1), some (.int 0), some (.int 0)]) bd_31_3 (Nat.le_of_ble_eq_true rfl) rfl) ?_
  rfl
theorem bs_X0_loavesGoodOn_4 (a0 : Nat) (a1 : Int32) (a2 : Int32) (a3 : Int32) (h : bn_H) : bn_ev 31 4 [some (.ref a0), some (.int a1), some (.int a2), some (.int a3)] [] h = bn_gI h a0 0 9 (fun x1 => if x1 ≤ a3 then (some (some (.int a2), h)) else (bn_gd (bn_isC h a0 0) (bn_cI (bn_ev 9 0 [some (.ref a0), some (.int a3)] [] h) (fun x3 h2 => if x3 = 0 then (bn_ev 31 4 [some (.ref a0), some (.int a1), some (.int a2), some (.int (a3 + 1))] [] h2) else (bn_gR h2 a0 0 12 (fun p4 => (bn_ld h2 p4 0 a3).bind (fun x5 => bn_gI h2 a0 0 2 (fun x6 => if x6 ≤ (x5 + a1) then (bn_ev 31 4 [some (.ref a0), some (.int a1), some (.int a2), some (.int (a3 + 1))] [] h2) else (bn_ev 31 4 [some (.ref a0), some (.int a1), some (.int (a2 + 1)), some (.int (a3 + 1))] [] h2))))))))) := by
  refine Eq.trans (be_iload_n bd_31_4 rfl) ?_
  refine Eq.trans (be_aload_n bd_31_5 rfl) ?_
  refine Eq.trans (be_getI bd_31_6 bf_0_42 rfl) ?_
  refine bn_gI_c fun x1 => ?_
  refine Eq.trans (be_icmp_ge (t := 44) bd_31_9 rfl) ?_
  refine bn_if_c ?_ ?_
  · refine Eq.trans (be_iload_n bd_31_44 rfl) ?_
    exact be_ireturn bd_31_45 rfl
  · refine Eq.trans (be_aload_n bd_31_12 rfl) ?_
    refine Eq.trans (be_iload_n bd_31_13 rfl) ?_
    refine Eq.trans (be_virtI (as := [.int a3]) (rr := []) (en := [some (.ref a0), some (.int a3)]) bd_31_14 bm_0_80 rfl rfl rfl ⟨Nat.le_of_ble_eq_true rfl, Nat.le_of_ble_eq_true rfl, Nat.le_of_ble_eq_true rfl, Nat.le_of_ble_eq_true rfl⟩ (Or.inr rfl)) ?_
    refine bn_gd_c (bn_cI_c fun x3 h2 => ?_)
    refine Eq.trans (be_if_eq (t := 38) bd_31_17 rfl) ?_
    refine bn_if_c ?_ ?_
    · refine Eq.trans (be_iinc (v := 1) (ls' := [some (.ref a0), some (.int a1), some (.int a2), some (.int (a3 + 1))]) bd_31_38 rfl (by decide) (Nat.le_of_ble_eq_true rfl) rfl) ?_
      refine Eq.trans (be_goto (t := 4) bd_31_41 rfl) ?_
      rfl
    · refine Eq.trans (be_aload_n bd_31_20 rfl) ?_
      refine Eq.trans (be_getR bd_31_21 bf_0_51 rfl (Or.inl ⟨_, rfl⟩)) ?_
      refine bn_gR_c fun p4 => ?_
      refine Eq.trans (be_iload_n bd_31_24 rfl) ?_
      refine Eq.trans (be_iaload bd_31_25) ?_
      refine bn_bd_c fun x5 => ?_
      refine Eq.trans (be_iload_n bd_31_26 rfl) ?_
      refine Eq.trans (be_iadd bd_31_27) ?_
      refine Eq.trans (be_aload_n bd_31_28 rfl) ?_
      refine Eq.trans (be_getI bd_31_29 bf_0_18 rfl) ?_
      refine bn_gI_c fun x6 => ?_
      refine Eq.trans (be_icmp_ge (t := 38) bd_31_32 rfl) ?_
      refine bn_if_c ?_ ?_
      · refine Eq.trans (be_iinc (v := 1) (ls' := [some (.ref a0), some (.int a1), some (.int a2), some (.int (a3 + 1))]) bd_31_38 rfl (by decide) (Nat.le_of_ble_eq_true rfl) rfl) ?_
        refine Eq.trans (be_goto (t := 4) bd_31_41 rfl) ?_
        rfl
      · refine Eq.trans (be_iinc (v := 1) (ls' := [some (.ref a0), some (.int a1), some (.int (a2 + 1)), some (.int a3)]) bd_31_35 rfl (by decide) (Nat.le_of_ble_eq_true rfl) rfl) ?_
        refine Eq.trans (be_iinc (v := 1) (ls' := [some (.ref a0), some (.int a1), some (.int (a2 + 1)), some (.int (a3 + 1))]) bd_31_38 rfl (by decide) (Nat.le_of_ble_eq_true rfl) rfl) ?_
        refine Eq.trans (be_goto (t := 4) bd_31_41 rfl) ?_
        rfl
theorem bs_J6_bitCount_0f7a4_0 (a0 : Int32) (h : bn_H) : bn_ev 129 0 [some (.int a0)] [] h = some (some (.int ((((((((a0 - ((bn_ushr a0 1) &&& 1431655765)) &&& 858993459) + ((bn_ushr (a0 - ((bn_ushr a0 1) &&& 1431655765)) 2) &&& 858993459)) + (bn_ushr (((a0 - ((bn_ushr a0 1) &&& 1431655765)) &&& 858993459) + ((bn_ushr (a0 - ((bn_ushr a0 1) &&& 1431655765)) 2) &&& 858993459)) 4)) &&& 252645135) + (bn_ushr (((((a0 - ((bn_ushr a0 1) &&& 1431655765)) &&& 858993459) + ((bn_ushr (a0 - ((bn_ushr a0 1) &&& 1431655765)) 2) &&& 858993459)) + (bn_ushr (((a0 - ((bn_ushr a0 1) &&& 1431655765)) &&& 858993459) + ((bn_ushr (a0 - ((bn_ushr a0 1) &&& 1431655765)) 2) &&& 858993459)) 4)) &&& 252645135) 8)) + (bn_ushr ((((((a0 - ((bn_ushr a0 1) &&& 1431655765)) &&& 858993459) + ((bn_ushr (a0 - ((bn_ushr a0 1) &&& 1431655765)) 2) &&& 858993459)) + (bn_ushr (((a0 - ((bn_ushr a0 1) &&& 1431655765)) &&& 858993459) + ((bn_ushr (a0 - ((bn_ushr a0 1) &&& 1431655765)) 2) &&& 858993459)) 4)) &&& 252645135) + (bn_ushr (((((a0 - ((bn_ushr a0 1) &&& 1431655765)) &&& 858993459) + ((bn_ushr (a0 - ((bn_ushr a0 1) &&& 1431655765)) 2) &&& 858993459)) + (bn_ushr (((a0 - ((bn_ushr a0 1) &&& 1431655765)) &&& 858993459) + ((bn_ushr (a0 - ((bn_ushr a0 1) &&& 1431655765)) 2) &&& 858993459)) 4)) &&& 252645135) 8)) 16)) &&& 63)), h) := by
  refine Eq.trans (be_iload_n bd_129_0 rfl) ?_
  refine Eq.trans (be_iload_n bd_129_1 rfl) ?_
  refine Eq.trans (be_iconst (v := 1) bd_129_2 (by decide)) ?_
  refine Eq.trans (be_iushr bd_129_3) ?_
  refine Eq.trans (be_ldcw (v := 1431655765) bd_129_4 rfl) ?_
  refine Eq.trans (be_iand bd_129_7) ?_
  refine Eq.trans (be_isub bd_129_8) ?_
  refine Eq.trans (be_istore_n (ls' := [some (.int (a0 - ((bn_ushr a0 1) &&& 1431655765)))]) bd_129_9 (Nat.le_of_ble_eq_true rfl) rfl) ?_
  refine Eq.trans (be_iload_n bd_129_10 rfl) ?_
  refine Eq.trans (be_ldcw (v := 858993459) bd_129_11 rfl) ?_
  refine Eq.trans (be_iand bd_129_14) ?_
  refine Eq.trans (be_iload_n bd_129_15 rfl) ?_
  refine Eq.trans (be_iconst (v := 2) bd_129_16 (by decide)) ?_
  refine Eq.trans (be_iushr bd_129_17) ?_
  refine Eq.trans (be_ldcw (v := 858993459) bd_129_18 rfl) ?_
  refine Eq.trans (be_iand bd_129_21) ?_
  refine Eq.trans (be_iadd bd_129_22) ?_
  refine Eq.trans (be_istore_n (ls' := [some (.int (((a0 - ((bn_ushr a0 1) &&& 1431655765)) &&& 858993459) + ((bn_ushr (a0 - ((bn_ushr a0 1) &&& 1431655765)) 2) &&& 858993459)))]) bd_129_23 (Nat.le_of_ble_eq_true rfl) rfl) ?_
  refine Eq.trans (be_iload_n bd_129_24 rfl) ?_
  refine Eq.trans (be_iload_n bd_129_25 rfl) ?_
  refine Eq.trans (be_iconst (v := 4) bd_129_26 (by decide)) ?_
  refine Eq.trans (be_iushr bd_129_27) ?_
  refine Eq.trans (be_iadd bd_129_28) ?_
  refine Eq.trans (be_ldcw (v := 252645135) bd_129_29 rfl) ?_
  refine Eq.trans (be_iand bd_129_32) ?_
  refine Eq.trans (be_istore_n (ls' := [some (.int (((((a0 - ((bn_ushr a0 1) &&& 1431655765)) &&& 858993459) + ((bn_ushr (a0 - ((bn_ushr a0 1) &&& 1431655765)) 2) &&& 858993459)) + (bn_ushr (((a0 - ((bn_ushr a0 1) &&& 1431655765)) &&& 858993459) + ((bn_ushr (a0 - ((bn_ushr a0 1) &&& 1431655765)) 2) &&& 858993459)) 4)) &&& 252645135))]) bd_129_33 (Nat.le_of_ble_eq_true rfl) rfl) ?_
  refine Eq.trans (be_iload_n bd_129_34 rfl) ?_
  refine Eq.trans (be_iload_n bd_129_35 rfl) ?_
  refine Eq.trans (be_bipush (v := 8) bd_129_36 (by decide)) ?_
  refine Eq.trans (be_iushr bd_129_38) ?_
  refine Eq.trans (be_iadd bd_129_39) ?_
  refine Eq.trans (be_istore_n (ls' := [some (.int ((((((a0 - ((bn_ushr a0 1) &&& 1431655765)) &&& 858993459) + ((bn_ushr (a0 - ((bn_ushr a0 1) &&& 1431655765)) 2) &&& 858993459)) + (bn_ushr (((a0 - ((bn_ushr a0 1) &&& 1431655765)) &&& 858993459) + ((bn_ushr (a0 - ((bn_ushr a0 1) &&& 1431655765)) 2) &&& 858993459)) 4)) &&& 252645135) + (bn_ushr (((((a0 - ((bn_ushr a0 1) &&& 1431655765)) &&& 858993459) + ((bn_ushr (a0 - ((bn_ushr a0 1) &&& 1431655765)) 2) &&& 858993459)) + (bn_ushr (((a0 - ((bn_ushr a0 1) &&& 1431655765)) &&& 858993459) + ((bn_ushr (a0 - ((bn_ushr a0 1) &&& 1431655765)) 2) &&& 858993459)) 4)) &&& 252645135) 8)))]) bd_129_40 (Nat.le_of_ble_eq_true rfl) rfl) ?_
  refine Eq.trans (be_iload_n bd_129_41 rfl) ?_
  refine Eq.trans (be_iload_n bd_129_42 rfl) ?_
  refine Eq.trans (be_bipush (v := 16) bd_129_43 (by decide)) ?_
  refine Eq.trans (be_iushr bd_129_45) ?_
  refine Eq.trans (be_iadd bd_129_46) ?_
  refine Eq.trans (be_istore_n (ls' := [some (.int (((((((a0 - ((bn_ushr a0 1) &&& 1431655765)) &&& 858993459) + ((bn_ushr (a0 - ((bn_ushr a0 1) &&& 1431655765)) 2) &&& 858993459)) + (bn_ushr (((a0 - ((bn_ushr a0 1) &&& 1431655765)) &&& 858993459) + ((bn_ushr (a0 - ((bn_ushr a0 1) &&& 1431655765)) 2) &&& 858993459)) 4)) &&& 252645135) + (bn_ushr (((((a0 - ((bn_ushr a0 1) &&& 1431655765)) &&& 858993459) + ((bn_ushr (a0 - ((bn_ushr a0 1) &&& 1431655765)) 2) &&& 858993459)) + (bn_ushr (((a0 - ((bn_ushr a0 1) &&& 1431655765)) &&& 858993459) + ((bn_ushr (a0 - ((bn_ushr a0 1) &&& 1431655765)) 2) &&& 858993459)) 4)) &&& 252645135) 8)) + (bn_ushr ((((((a0 - ((bn_ushr a0 1) &&& 1431655765)) &&& 858993459) + ((bn_ushr (a0 - ((bn_ushr a0 1) &&& 1431655765)) 2) &&& 858993459)) + (bn_ushr (((a0 - ((bn_ushr a0 1) &&& 1431655765)) &&& 858993459) + ((bn_ushr (a0 - ((bn_ushr a0 1) &&& 1431655765)) 2) &&& 858993459)) 4)) &&& 252645135) + (bn_ushr (((((a0 - ((bn_ushr a0 1) &&& 1431655765)) &&& 858993459) + ((bn_ushr (a0 - ((bn_ushr a0 1) &&& 1431655765)) 2) &&& 858993459)) + (bn_ushr (((a0 - ((bn_ushr a0 1) &&& 1431655765)) &&& 858993459) + ((bn_ushr (a0 - ((bn_ushr a0 1) &&& 1431655765)) 2) &&& 858993459)) 4)) &&& 252645135) 8)) 16)))]) bd_129_47 (Nat.le_of_ble_eq_true rfl) rfl) ?_
  refine Eq.trans (be_iload_n bd_129_48 rfl) ?_
  refine Eq.trans (be_bipush (v := 63) bd_129_49 (by decide)) ?_
  refine Eq.trans (be_iand bd_129_51) ?_
  exact be_ireturn bd_129_52 rfl
