/-! segments: the model -/
theorem bs_X3_in_0 (a0 : Int64) (a2 : Int64) (a4 : Int64) (h : bn_H) : bn_ev 77 0 [some (.long a0), none, some (.long a2), none, some (.long a4), none] [] h = if (lg_cmp a0 a2) < 0 then (some (some (.int 0), h)) else (if 0 < (lg_cmp a0 a4) then (some (some (.int 0), h)) else (some (some (.int 1), h))) := by
  refine Eq.trans (be_lload_n bd_77_0 rfl) ?_
  refine Eq.trans (be_lload_n bd_77_1 rfl) ?_
  refine Eq.trans (be_lcmp bd_77_2) ?_
  refine Eq.trans (be_if_lt (t := 17) bd_77_3 rfl) ?_
  refine bn_if_c ?_ ?_
  · refine Eq.trans (be_iconst (v := 0) bd_77_17 (by decide)) ?_
    exact be_z0 bd_77_18 rfl (Or.inl rfl)
  · refine Eq.trans (be_lload_n bd_77_6 rfl) ?_
    refine Eq.trans (be_lload bd_77_7 rfl) ?_
    refine Eq.trans (be_lcmp bd_77_9) ?_
    refine Eq.trans (be_if_gt (t := 17) bd_77_10 rfl) ?_
    refine bn_if_c ?_ ?_
    · refine Eq.trans (be_iconst (v := 0) bd_77_17 (by decide)) ?_
      exact be_z0 bd_77_18 rfl (Or.inl rfl)
    · refine Eq.trans (be_iconst (v := 1) bd_77_13 (by decide)) ?_
      refine Eq.trans (be_goto (t := 18) bd_77_14 rfl) ?_
      exact be_z0 bd_77_18 rfl (Or.inr rfl)
theorem bs_X3_write_0 (a0 : Nat) (a1 : Int32) (a2 : Int64) (h : bn_H) : bn_ev 78 0 [some (.ref a0), some (.int a1), some (.long a2), none, none] [] h = bn_cI (bn_ev 77 0 [some (.long a1.toInt64), none, some (.long 1), none, some (.long 8), none] [] h) (fun x2 h1 => if x2 = 0 then (some (some (.int (-2)), h1)) else (bn_gI h1 a0 3 14 (fun x3 => if (x3 + a1) ≤ 80 then (bn_ev 78 34 [some (.ref a0), some (.int a1), some (.long a2), none, some (.int (a1 - 1))] [] h1) else (some (some (.int (-4)), h1))))) := by
  refine Eq.trans (be_iload_n bd_78_0 rfl) ?_
  refine Eq.trans (be_i2l bd_78_1) ?_
  refine Eq.trans (be_lconst (v := 1) bd_78_2 (by decide)) ?_
  refine Eq.trans (be_ldc2w (v := 8) bd_78_3 rfl) ?_
  refine Eq.trans (be_statI (as := [.long 8, .long 1, .long a1.toInt64]) (rr := []) (en := [some (.long a1.toInt64), none, some (.long 1), none, some (.long 8), none]) bd_78_6 bm_3_57 rfl rfl rfl ⟨Nat.le_of_ble_eq_true rfl, Nat.le_of_ble_eq_true rfl, Nat.le_of_ble_eq_true rfl, Nat.le_of_ble_eq_true rfl⟩ (Or.inr rfl)) ?_
  refine bn_cI_c fun x2 h1 => ?_
  refine Eq.trans (be_if_ne (t := 15) bd_78_9 rfl) ?_
  refine bn_if_c ?_ ?_
  · refine Eq.trans (be_bipush (v := (-2)) bd_78_12 (by decide)) ?_
    exact be_ireturn bd_78_14 rfl
  · refine Eq.trans (be_aload_n bd_78_15 rfl) ?_
    refine Eq.trans (be_getI bd_78_16 bf_3_61 rfl) ?_
    refine bn_gI_c fun x3 => ?_
    refine Eq.trans (be_iload_n bd_78_19 rfl) ?_
    refine Eq.trans (be_iadd bd_78_20) ?_
    refine Eq.trans (be_bipush (v := 80) bd_78_21 (by decide)) ?_
    refine Eq.trans (be_icmp_le (t := 29) bd_78_23 rfl) ?_
    refine bn_if_c ?_ ?_
    · refine Eq.trans (be_iload_n bd_78_29 rfl) ?_
      refine Eq.trans (be_iconst (v := 1) bd_78_30 (by decide)) ?_
      refine Eq.trans (be_isub bd_78_31) ?_
      refine Eq.trans (be_istore (ls' := [some (.ref a0), some (.int a1), some (.long a2), none, some (.int (a1 - 1))]) bd_78_32 (Nat.le_of_ble_eq_true rfl) rfl) ?_
      rfl
    · refine Eq.trans (be_bipush (v := (-4)) bd_78_26 (by decide)) ?_
      exact be_ireturn bd_78_28 rfl
theorem bs_X3_write_34 (a0 : Nat) (a1 : Int32) (a2 : Int64) (a4 : Int32) (h : bn_H) : bn_ev 78 34 [some (.ref a0), some (.int a1), some (.long a2), none, some (.int a4)] [] h = if a4 < 0 then (bn_gI h a0 3 14 (fun x1 => some (some (.int x1), h))) else (bn_gR h a0 3 13 (fun p2 => bn_gI h a0 3 14 (fun x3 => (bn_sd h p2 0 x3 (((bn_lshr a2 (8 * a4)) &&& 255).toInt32)).bind (fun h4 => bn_gI h4 a0 3 14 (fun x5 => (bn_pf h4 a0 3 14 (.int (x5 + 1))).bind (fun h6 => bn_ev 78 34 [some (.ref a0), some (.int a1), some (.long a2), none, some (.int (a4 + (-1)))] [] h6)))))) := by
  refine Eq.trans (be_iload bd_78_34 rfl) ?_
  refine Eq.trans (be_if_lt (t := 76) bd_78_36 rfl) ?_
  refine bn_if_c ?_ ?_
  · refine Eq.trans (be_aload_n bd_78_76 rfl) ?_
    refine Eq.trans (be_getI bd_78_77 bf_3_61 rfl) ?_
    refine bn_gI_c fun x1 => ?_
    exact be_ireturn bd_78_80 rfl
  · refine Eq.trans (be_aload_n bd_78_39 rfl) ?_
    refine Eq.trans (be_getR bd_78_40 bf_3_16 rfl (Or.inl ⟨_, rfl⟩)) ?_
    refine bn_gR_c fun p2 => ?_
    refine Eq.trans (be_aload_n bd_78_43 rfl) ?_
    refine Eq.trans (be_getI bd_78_44 bf_3_61 rfl) ?_
    refine bn_gI_c fun x3 => ?_
    refine Eq.trans (be_lload_n bd_78_47 rfl) ?_
    refine Eq.trans (be_bipush (v := 8) bd_78_48 (by decide)) ?_
    refine Eq.trans (be_iload bd_78_50 rfl) ?_
    refine Eq.trans (be_imul bd_78_52) ?_
    refine Eq.trans (be_lshr bd_78_53) ?_
    refine Eq.trans (be_ldc2w (v := 255) bd_78_54 rfl) ?_
    refine Eq.trans (be_land bd_78_57) ?_
    refine Eq.trans (be_l2i bd_78_58) ?_
    refine Eq.trans (be_iastore bd_78_59) ?_
    refine bn_bd_c fun h4 => ?_
    refine Eq.trans (be_aload_n bd_78_60 rfl) ?_
    refine Eq.trans (be_dup bd_78_61 rfl) ?_
    refine Eq.trans (be_getI bd_78_62 bf_3_61 rfl) ?_
    refine bn_gI_c fun x5 => ?_
    refine Eq.trans (be_iconst (v := 1) bd_78_65 (by decide)) ?_
    refine Eq.trans (be_iadd bd_78_66) ?_
    refine Eq.trans (be_putI bd_78_67 bf_3_61 rfl rfl) ?_
    refine bn_bd_c fun h6 => ?_
    refine Eq.trans (be_iinc (v := (-1)) (ls' := [some (.ref a0), some (.int a1), some (.long a2), none, some (.int (a4 + (-1)))]) bd_78_70 rfl (by decide) (Nat.le_of_ble_eq_true rfl) rfl) ?_
    refine Eq.trans (be_goto (t := 34) bd_78_73 rfl) ?_
    rfl
theorem bs_X3_wipe_0 (a0 : Nat) (h : bn_H) : bn_ev 79 0 [some (.ref a0), none] [] h = bn_gI h a0 3 14 (fun x1 => (bn_pf h a0 3 14 (.int 0)).bind (fun h2 => some (some (.int x1), h2))) := by
  refine Eq.trans (be_aload_n bd_79_0 rfl) ?_
  refine Eq.trans (be_getI bd_79_1 bf_3_61 rfl) ?_
  refine bn_gI_c fun x1 => ?_
  refine Eq.trans (be_istore_n (ls' := [some (.ref a0), some (.int x1)]) bd_79_4 (Nat.le_of_ble_eq_true rfl) rfl) ?_
  refine Eq.trans (be_aload_n bd_79_5 rfl) ?_
  refine Eq.trans (be_iconst (v := 0) bd_79_6 (by decide)) ?_
  refine Eq.trans (be_putI bd_79_7 bf_3_61 rfl rfl) ?_
  refine bn_bd_c fun h2 => ?_
  refine Eq.trans (be_iload_n bd_79_10 rfl) ?_
  exact be_ireturn bd_79_11 rfl
theorem bs_X3_figure_0 (a0 : Nat) (a1 : Int32) (h : bn_H) : bn_ev 80 0 [some (.ref a0), some (.int a1), none] [] h = bn_gI h a0 3 16 (fun x1 => if x1 = (-9) then (bn_gI h a0 3 15 (fun x2 => bn_gI h a0 3 14 (fun x3 => if x3 ≤ x2 then (bn_ev 80 35 [some (.ref a0), some (.int a1), none] [] h) else (bn_gR h a0 3 13 (fun p4 => bn_gI h a0 3 15 (fun x5 => (bn_ld h p4 0 x5).bind (fun x6 => bn_cI (bn_ev 77 0 [some (.long ((x6 - 48).toInt64)), none, some (.long 0), none, some (.long 9), none] [] h) (fun x8 h7 => if x8 = 0 then (bn_ev 80 57 [some (.ref a0), some (.int a1), some (.int (x6 - 48))] [] h7) else (if ((bn_shr a1 (x6 - 48)) &&& 1) = 0 then (bn_ev 80 57 [some (.ref a0), some (.int a1), some (.int (x6 - 48))] [] h7) else (bn_gI h7 a0 3 15 (fun x9 => (bn_pf h7 a0 3 15 (.int (x9 + 1))).bind (fun h10 => some (some (.int (x6 - 48)), h10))))))))))))) else (bn_ev 80 35 [some (.ref a0), some (.int a1), none] [] h)) := by
  refine Eq.trans (be_aload_n bd_80_0 rfl) ?_
  refine Eq.trans (be_getI bd_80_1 bf_3_66 rfl) ?_
  refine bn_gI_c fun x1 => ?_
  refine Eq.trans (be_bipush (v := (-9)) bd_80_4 (by decide)) ?_
  refine Eq.trans (be_icmp_ne (t := 35) bd_80_6 rfl) ?_
  refine bn_if_c ?_ ?_
  · refine Eq.trans (be_aload_n bd_80_9 rfl) ?_
    refine Eq.trans (be_getI bd_80_10 bf_3_69 rfl) ?_
    refine bn_gI_c fun x2 => ?_
    refine Eq.trans (be_aload_n bd_80_13 rfl) ?_
    refine Eq.trans (be_getI bd_80_14 bf_3_61 rfl) ?_
    refine bn_gI_c fun x3 => ?_
    refine Eq.trans (be_icmp_ge (t := 35) bd_80_17 rfl) ?_
    refine bn_if_c ?_ ?_
    · rfl
    · refine Eq.trans (be_aload_n bd_80_20 rfl) ?_
      refine Eq.trans (be_getR bd_80_21 bf_3_16 rfl (Or.inl ⟨_, rfl⟩)) ?_
      refine bn_gR_c fun p4 => ?_
      refine Eq.trans (be_aload_n bd_80_24 rfl) ?_
      refine Eq.trans (be_getI bd_80_25 bf_3_69 rfl) ?_
      refine bn_gI_c fun x5 => ?_
      refine Eq.trans (be_iaload bd_80_28) ?_
      refine bn_bd_c fun x6 => ?_
      refine Eq.trans (be_bipush (v := 48) bd_80_29 (by decide)) ?_
      refine Eq.trans (be_isub bd_80_31) ?_
      refine Eq.trans (be_goto (t := 36) bd_80_32 rfl) ?_
      refine Eq.trans (be_istore_n (ls' := [some (.ref a0), some (.int a1), some (.int (x6 - 48))]) bd_80_36 (Nat.le_of_ble_eq_true rfl) rfl) ?_
      refine Eq.trans (be_iload_n bd_80_37 rfl) ?_
      refine Eq.trans (be_i2l bd_80_38) ?_
      refine Eq.trans (be_lconst (v := 0) bd_80_39 (by decide)) ?_
      refine Eq.trans (be_ldc2w (v := 9) bd_80_40 rfl) ?_
      refine Eq.trans (be_statI (as := [.long 9, .long 0, .long ((x6 - 48).toInt64)]) (rr := []) (en := [some (.long ((x6 - 48).toInt64)), none, some (.long 0), none, some (.long 9), none]) bd_80_43 bm_3_57 rfl rfl rfl ⟨Nat.le_of_ble_eq_true rfl, Nat.le_of_ble_eq_true rfl, Nat.le_of_ble_eq_true rfl, Nat.le_of_ble_eq_true rfl⟩ (Or.inr rfl)) ?_
      refine bn_cI_c fun x8 h7 => ?_
      refine Eq.trans (be_if_eq (t := 57) bd_80_46 rfl) ?_
      refine bn_if_c ?_ ?_
      · rfl
      · refine Eq.trans (be_iload_n bd_80_49 rfl) ?_
        refine Eq.trans (be_iload_n bd_80_50 rfl) ?_
        refine Eq.trans (be_ishr bd_80_51) ?_
        refine Eq.trans (be_iconst (v := 1) bd_80_52 (by decide)) ?_
        refine Eq.trans (be_iand bd_80_53) ?_
        refine Eq.trans (be_if_ne (t := 83) bd_80_54 rfl) ?_
        refine bn_if_c ?_ ?_
        · rfl
        · refine Eq.trans (be_aload_n bd_80_83 rfl) ?_
          refine Eq.trans (be_dup bd_80_84 rfl) ?_
          refine Eq.trans (be_getI bd_80_85 bf_3_69 rfl) ?_
          refine bn_gI_c fun x9 => ?_
          refine Eq.trans (be_iconst (v := 1) bd_80_88 (by decide)) ?_
          refine Eq.trans (be_iadd bd_80_89) ?_
          refine Eq.trans (be_putI bd_80_90 bf_3_69 rfl rfl) ?_
          refine bn_bd_c fun h10 => ?_
          refine Eq.trans (be_iload_n bd_80_93 rfl) ?_
          exact be_ireturn bd_80_94 rfl
  · rfl
theorem bs_X3_figure_35 (a0 : Nat) (a1 : Int32) (o2 : Option Value) (h : bn_H) : bn_ev 80 35 [some (.ref a0), some (.int a1), o2] [] h = bn_cI (bn_ev 77 0 [some (.long ((-1).toInt64)), none, some (.long 0), none, some (.long 9), none] [] h) (fun x2 h1 => if x2 = 0 then (bn_ev 80 57 [some (.ref a0), some (.int a1), some (.int (-1))] [] h1) else (if ((bn_shr a1 (-1)) &&& 1) = 0 then (bn_ev 80 57 [some (.ref a0), some (.int a1), some (.int (-1))] [] h1) else (bn_gI h1 a0 3 15 (fun x3 => (bn_pf h1 a0 3 15 (.int (x3 + 1))).bind (fun h4 => some (some (.int (-1)), h4)))))) := by
  refine Eq.trans (be_iconst (v := (-1)) bd_80_35 (by decide)) ?_
  refine Eq.trans (be_istore_n (ls' := [some (.ref a0), some (.int a1), some (.int (-1))]) bd_80_36 (Nat.le_of_ble_eq_true rfl) rfl) ?_
  refine Eq.trans (be_iload_n bd_80_37 rfl) ?_
  refine Eq.trans (be_i2l bd_80_38) ?_
  refine Eq.trans (be_lconst (v := 0) bd_80_39 (by decide)) ?_
  refine Eq.trans (be_ldc2w (v := 9) bd_80_40 rfl) ?_
  refine Eq.trans (be_statI (as := [.long 9, .long 0, .long ((-1).toInt64)]) (rr := []) (en := [some (.long ((-1).toInt64)), none, some (.long 0), none, some (.long 9), none]) bd_80_43 bm_3_57 rfl rfl rfl ⟨Nat.le_of_ble_eq_true rfl, Nat.le_of_ble_eq_true rfl, Nat.le_of_ble_eq_true rfl, Nat.le_of_ble_eq_true rfl⟩ (Or.inr rfl)) ?_
  refine bn_cI_c fun x2 h1 => ?_
  refine Eq.trans (be_if_eq (t := 57) bd_80_46 rfl) ?_
  refine bn_if_c ?_ ?_
  · rfl
  · refine Eq.trans (be_iload_n bd_80_49 rfl) ?_
    refine Eq.trans (be_iload_n bd_80_50 rfl) ?_
    refine Eq.trans (be_ishr bd_80_51) ?_
    refine Eq.trans (be_iconst (v := 1) bd_80_52 (by decide)) ?_
    refine Eq.trans (be_iand bd_80_53) ?_
    refine Eq.trans (be_if_ne (t := 83) bd_80_54 rfl) ?_
    refine bn_if_c ?_ ?_
    · rfl
    · refine Eq.trans (be_aload_n bd_80_83 rfl) ?_
      refine Eq.trans (be_dup bd_80_84 rfl) ?_
      refine Eq.trans (be_getI bd_80_85 bf_3_69 rfl) ?_
      refine bn_gI_c fun x3 => ?_
      refine Eq.trans (be_iconst (v := 1) bd_80_88 (by decide)) ?_
      refine Eq.trans (be_iadd bd_80_89) ?_
      refine Eq.trans (be_putI bd_80_90 bf_3_69 rfl rfl) ?_
      refine bn_bd_c fun h4 => ?_
      refine Eq.trans (be_iload_n bd_80_93 rfl) ?_
      exact be_ireturn bd_80_94 rfl
theorem bs_X3_figure_57 (a0 : Nat) (a1 : Int32) (a2 : Int32) (h : bn_H) : bn_ev 80 57 [some (.ref a0), some (.int a1), some (.int a2)] [] h = bn_gI h a0 3 16 (fun x1 => if x1 = (-9) then (bn_gI h a0 3 15 (fun x2 => (bn_pf h a0 3 16 (.int x2)).bind (fun h3 => some (some (.int 0), h3)))) else (bn_gI h a0 3 16 (fun x4 => (bn_pf h a0 3 16 (.int x4)).bind (fun h5 => some (some (.int 0), h5))))) := by
  refine Eq.trans (be_aload_n bd_80_57 rfl) ?_
  refine Eq.trans (be_aload_n bd_80_58 rfl) ?_
  refine Eq.trans (be_getI bd_80_59 bf_3_66 rfl) ?_
  refine bn_gI_c fun x1 => ?_
  refine Eq.trans (be_bipush (v := (-9)) bd_80_62 (by decide)) ?_
  refine Eq.trans (be_icmp_ne (t := 74) bd_80_64 rfl) ?_
  refine bn_if_c ?_ ?_
  · refine Eq.trans (be_aload_n bd_80_67 rfl) ?_
    refine Eq.trans (be_getI bd_80_68 bf_3_69 rfl) ?_
    refine bn_gI_c fun x2 => ?_
    refine Eq.trans (be_goto (t := 78) bd_80_71 rfl) ?_
    refine Eq.trans (be_putI bd_80_78 bf_3_66 rfl rfl) ?_
    refine bn_bd_c fun h3 => ?_
    refine Eq.trans (be_iconst (v := 0) bd_80_81 (by decide)) ?_
    exact be_ireturn bd_80_82 rfl
  · refine Eq.trans (be_aload_n bd_80_74 rfl) ?_
    refine Eq.trans (be_getI bd_80_75 bf_3_66 rfl) ?_
    refine bn_gI_c fun x4 => ?_
    refine Eq.trans (be_putI bd_80_78 bf_3_66 rfl rfl) ?_
    refine bn_bd_c fun h5 => ?_
    refine Eq.trans (be_iconst (v := 0) bd_80_81 (by decide)) ?_
    exact be_ireturn bd_80_82 rfl
theorem bs_X3_free_0 (a0 : Nat) (a1 : Int32) (h : bn_H) : bn_ev 81 0 [some (.ref a0), some (.int a1), none, none, none] [] h = bn_ev 81 16 [some (.ref a0), some (.int a1), some (.int (if a1 = 0 then 1022 else 1023)), some (.int 0), none] [] h := by
  refine Eq.trans (be_iload_n bd_81_0 rfl) ?_
  refine Eq.trans (be_if_ne (t := 10) bd_81_1 rfl) ?_
  refine Eq.trans (bn_dia (J := 13) (a := 1022) (b := 1023) (by
      refine Eq.trans (be_sipush (v := 1022) bd_81_4 (by decide)) ?_
      refine Eq.trans (be_goto (t := 13) bd_81_7 rfl) ?_
      rfl) (by
      refine Eq.trans (be_sipush (v := 1023) bd_81_10 (by decide)) ?_
      rfl)) ?_
  refine Eq.trans (be_istore_n (ls' := [some (.ref a0), some (.int a1), some (.int (if a1 = 0 then 1022 else 1023)), none, none]) bd_81_13 (Nat.le_of_ble_eq_true rfl) rfl) ?_
  refine Eq.trans (be_iconst (v := 0) bd_81_14 (by decide)) ?_
  refine Eq.trans (be_istore_n (ls' := [some (.ref a0), some (.int a1), some (.int (if a1 = 0 then 1022 else 1023)), some (.int 0), none]) bd_81_15 (Nat.le_of_ble_eq_true rfl) rfl) ?_
  rfl
theorem bs_X3_free_16 (a0 : Nat) (a1 : Int32) (a2 : Int32) (a3 : Int32) (o4 : Option Value) (h : bn_H) : bn_ev 81 16 [some (.ref a0), some (.int a1), some (.int a2), some (.int a3), o4] [] h = bn_gI h a0 3 5 (fun x1 => if x1 ≤ a3 then (some (some (.int a2), h)) else (bn_gR h a0 3 0 (fun p2 => (bn_ld h p2 0 (20 + (5 * a3))).bind (fun x3 => bn_ev 81 16 [some (.ref a0), some (.int a1), some (.int (a2 &&& (if (x3 / 10) = a1 then (bn_shl 1 (bn_rem x3 10)) ^^^ (-1) else (-1)))), some (.int (a3 + 1)), some (.int x3)] [] h)))) := by
  refine Eq.trans (be_iload_n bd_81_16 rfl) ?_
  refine Eq.trans (be_aload_n bd_81_17 rfl) ?_
  refine Eq.trans (be_getI bd_81_18 bf_3_74 rfl) ?_
  refine bn_gI_c fun x1 => ?_
  refine Eq.trans (be_icmp_ge (t := 68) bd_81_21 rfl) ?_
  refine bn_if_c ?_ ?_
  · refine Eq.trans (be_iload_n bd_81_68 rfl) ?_
    exact be_ireturn bd_81_69 rfl
  · refine Eq.trans (be_aload_n bd_81_24 rfl) ?_
    refine Eq.trans (be_getR bd_81_25 bf_3_7 rfl (Or.inl ⟨_, rfl⟩)) ?_
    refine bn_gR_c fun p2 => ?_
    refine Eq.trans (be_bipush (v := 20) bd_81_28 (by decide)) ?_
    refine Eq.trans (be_iconst (v := 5) bd_81_30 (by decide)) ?_
    refine Eq.trans (be_iload_n bd_81_31 rfl) ?_
    refine Eq.trans (be_imul bd_81_32) ?_
    refine Eq.trans (be_iadd bd_81_33) ?_
    refine Eq.trans (be_iaload bd_81_34) ?_
    refine bn_bd_c fun x3 => ?_
    refine Eq.trans (be_istore (ls' := [some (.ref a0), some (.int a1), some (.int a2), some (.int a3), some (.int x3)]) bd_81_35 (Nat.le_of_ble_eq_true rfl) rfl) ?_
    refine Eq.trans (be_iload_n bd_81_37 rfl) ?_
    refine Eq.trans (be_iload bd_81_38 rfl) ?_
    refine Eq.trans (be_bipush (v := 10) bd_81_40 (by decide)) ?_
    refine Eq.trans (be_idiv_c bd_81_42 (by decide)) ?_
    refine Eq.trans (be_iload_n bd_81_43 rfl) ?_
    refine Eq.trans (be_icmp_ne (t := 59) bd_81_44 rfl) ?_
    refine Eq.trans (bn_dia (J := 60) (a := (bn_shl 1 (bn_rem x3 10)) ^^^ (-1)) (b := (-1)) (by
      refine Eq.trans (be_iconst (v := 1) bd_81_47 (by decide)) ?_
      refine Eq.trans (be_iload bd_81_48 rfl) ?_
      refine Eq.trans (be_bipush (v := 10) bd_81_50 (by decide)) ?_
      refine Eq.trans (be_irem_c bd_81_52 (by decide)) ?_
      refine Eq.trans (be_ishl bd_81_53) ?_
      refine Eq.trans (be_iconst (v := (-1)) bd_81_54 (by decide)) ?_
      refine Eq.trans (be_ixor bd_81_55) ?_
      refine Eq.trans (be_goto (t := 60) bd_81_56 rfl) ?_
      rfl) (by
      refine Eq.trans (be_iconst (v := (-1)) bd_81_59 (by decide)) ?_
      rfl)) ?_
    refine Eq.trans (be_iand bd_81_60) ?_
    refine Eq.trans (be_istore_n (ls' := [some (.ref a0), some (.int a1), some (.int (a2 &&& (if (x3 / 10) = a1 then (bn_shl 1 (bn_rem x3 10)) ^^^ (-1) else (-1)))), some (.int a3), some (.int x3)]) bd_81_61 (Nat.le_of_ble_eq_true rfl) rfl) ?_
    refine Eq.trans (be_iinc (v := 1) (ls' := [some (.ref a0), some (.int a1), some (.int (a2 &&& (if (x3 / 10) = a1 then (bn_shl 1 (bn_rem x3 10)) ^^^ (-1) else (-1)))), some (.int (a3 + 1)), some (.int x3)]) bd_81_62 rfl (by decide) (Nat.le_of_ble_eq_true rfl) rfl) ?_
    refine Eq.trans (be_goto (t := 16) bd_81_65 rfl) ?_
    rfl
theorem bs_X3_readText_0 (a0 : Nat) (h : bn_H) : bn_ev 82 0 [some (.ref a0), none] [] h = (bn_pf h a0 3 15 (.int 0)).bind (fun h1 => (bn_pf h1 a0 3 16 (.int (-9))).bind (fun h2 => (bn_pf h2 a0 3 4 (.int 0)).bind (fun h3 => (bn_pf h3 a0 3 5 (.int 0)).bind (fun h4 => bn_gI h4 a0 3 14 (fun x5 => if x5 = 0 then (some (some (.int 0), h4)) else (bn_gR h4 a0 3 13 (fun p6 => (bn_ld h4 p6 0 0).bind (fun x7 => if x7 = 83 then ((bn_pf h4 a0 3 15 (.int 1)).bind (fun h8 => bn_gd (bn_isC h8 a0 3) (bn_cI (bn_ev 80 0 [some (.ref a0), some (.int 7), none] [] h8) (fun x10 h9 => (bn_pf h9 a0 3 1 (.int x10)).bind (fun h11 => bn_gd (bn_isC h11 a0 3) (bn_cI (bn_ev 80 0 [some (.ref a0), some (.int 1022), none] [] h11) (fun x13 h12 => (bn_pf h12 a0 3 2 (.int x13)).bind (fun h14 => bn_gd (bn_isC h14 a0 3) (bn_cI (bn_ev 80 0 [some (.ref a0), some (.int 1022), none] [] h14) (fun x16 h15 => (bn_pf h15 a0 3 3 (.int x16)).bind (fun h17 => bn_ev 82 78 [some (.ref a0), none] [] h17))))))))))) else (some (some (.int 0), h4)))))))))) := by
  refine Eq.trans (be_aload_n bd_82_0 rfl) ?_
  refine Eq.trans (be_iconst (v := 0) bd_82_1 (by decide)) ?_
  refine Eq.trans (be_putI bd_82_2 bf_3_69 rfl rfl) ?_
  refine bn_bd_c fun h1 => ?_
  refine Eq.trans (be_aload_n bd_82_5 rfl) ?_
  refine Eq.trans (be_bipush (v := (-9)) bd_82_6 (by decide)) ?_
  refine Eq.trans (be_putI bd_82_8 bf_3_66 rfl rfl) ?_
  refine bn_bd_c fun h2 => ?_
  refine Eq.trans (be_aload_n bd_82_11 rfl) ?_
  refine Eq.trans (be_iconst (v := 0) bd_82_12 (by decide)) ?_
  refine Eq.trans (be_putI bd_82_13 bf_3_77 rfl rfl) ?_
  refine bn_bd_c fun h3 => ?_
  refine Eq.trans (be_aload_n bd_82_16 rfl) ?_
  refine Eq.trans (be_iconst (v := 0) bd_82_17 (by decide)) ?_
  refine Eq.trans (be_putI bd_82_18 bf_3_74 rfl rfl) ?_
  refine bn_bd_c fun h4 => ?_
  refine Eq.trans (be_aload_n bd_82_21 rfl) ?_
  refine Eq.trans (be_getI bd_82_22 bf_3_61 rfl) ?_
  refine bn_gI_c fun x5 => ?_
  refine Eq.trans (be_if_eq (t := 39) bd_82_25 rfl) ?_
  refine bn_if_c ?_ ?_
  · refine Eq.trans (be_iconst (v := 0) bd_82_39 (by decide)) ?_
    exact be_ireturn bd_82_40 rfl
  · refine Eq.trans (be_aload_n bd_82_28 rfl) ?_
    refine Eq.trans (be_getR bd_82_29 bf_3_16 rfl (Or.inl ⟨_, rfl⟩)) ?_
    refine bn_gR_c fun p6 => ?_
    refine Eq.trans (be_iconst (v := 0) bd_82_32 (by decide)) ?_
    refine Eq.trans (be_iaload bd_82_33) ?_
    refine bn_bd_c fun x7 => ?_
    refine Eq.trans (be_bipush (v := 83) bd_82_34 (by decide)) ?_
    refine Eq.trans (be_icmp_eq (t := 41) bd_82_36 rfl) ?_
    refine bn_if_c ?_ ?_
    · refine Eq.trans (be_aload_n bd_82_41 rfl) ?_
      refine Eq.trans (be_iconst (v := 1) bd_82_42 (by decide)) ?_
      refine Eq.trans (be_putI bd_82_43 bf_3_69 rfl rfl) ?_
      refine bn_bd_c fun h8 => ?_
      refine Eq.trans (be_aload_n bd_82_46 rfl) ?_
      refine Eq.trans (be_aload_n bd_82_47 rfl) ?_
      refine Eq.trans (be_bipush (v := 7) bd_82_48 (by decide)) ?_
      refine Eq.trans (be_virtI (as := [.int 7]) (rr := [.ref a0]) (en := [some (.ref a0), some (.int 7), none]) bd_82_50 bm_3_80 rfl rfl rfl ⟨Nat.le_of_ble_eq_true rfl, Nat.le_of_ble_eq_true rfl, Nat.le_of_ble_eq_true rfl, Nat.le_of_ble_eq_true rfl⟩ (Or.inl rfl)) ?_
      refine bn_gd_c (bn_cI_c fun x10 h9 => ?_)
      refine Eq.trans (be_putI bd_82_53 bf_3_84 rfl rfl) ?_
      refine bn_bd_c fun h11 => ?_
      refine Eq.trans (be_aload_n bd_82_56 rfl) ?_
      refine Eq.trans (be_aload_n bd_82_57 rfl) ?_
      refine Eq.trans (be_sipush (v := 1022) bd_82_58 (by decide)) ?_
      refine Eq.trans (be_virtI (as := [.int 1022]) (rr := [.ref a0]) (en := [some (.ref a0), some (.int 1022), none]) bd_82_61 bm_3_80 rfl rfl rfl ⟨Nat.le_of_ble_eq_true rfl, Nat.le_of_ble_eq_true rfl, Nat.le_of_ble_eq_true rfl, Nat.le_of_ble_eq_true rfl⟩ (Or.inl rfl)) ?_
      refine bn_gd_c (bn_cI_c fun x13 h12 => ?_)
      refine Eq.trans (be_putI bd_82_64 bf_3_87 rfl rfl) ?_
      refine bn_bd_c fun h14 => ?_
      refine Eq.trans (be_aload_n bd_82_67 rfl) ?_
      refine Eq.trans (be_aload_n bd_82_68 rfl) ?_
      refine Eq.trans (be_sipush (v := 1022) bd_82_69 (by decide)) ?_
      refine Eq.trans (be_virtI (as := [.int 1022]) (rr := [.ref a0]) (en := [some (.ref a0), some (.int 1022), none]) bd_82_72 bm_3_80 rfl rfl rfl ⟨Nat.le_of_ble_eq_true rfl, Nat.le_of_ble_eq_true rfl, Nat.le_of_ble_eq_true rfl, Nat.le_of_ble_eq_true rfl⟩ (Or.inl rfl)) ?_
      refine bn_gd_c (bn_cI_c fun x16 h15 => ?_)
      refine Eq.trans (be_putI bd_82_75 bf_3_90 rfl rfl) ?_
      refine bn_bd_c fun h17 => ?_
      rfl
    · refine Eq.trans (be_iconst (v := 0) bd_82_39 (by decide)) ?_
      exact be_ireturn bd_82_40 rfl
theorem bs_X3_readText_78 (a0 : Nat) (o1 : Option Value) (h : bn_H) : bn_ev 82 78 [some (.ref a0), o1] [] h = bn_gI h a0 3 16 (fun x1 => if x1 = (-9) then (bn_gI h a0 3 15 (fun x2 => bn_gI h a0 3 14 (fun x3 => if x3 ≤ x2 then (bn_gI h a0 3 16 (fun x4 => some (some (.int x4), h))) else (bn_gR h a0 3 13 (fun p5 => bn_gI h a0 3 15 (fun x6 => (bn_ld h p5 0 x6).bind (fun x7 => if x7 = 80 then (bn_gI h a0 3 4 (fun x8 => if 5 ≤ x8 then (bn_ev 82 195 [some (.ref a0), o1] [] h) else (bn_gI h a0 3 15 (fun x9 => (bn_pf h a0 3 15 (.int (x9 + 1))).bind (fun h10 => bn_gI h10 a0 3 4 (fun x11 => bn_gR h10 a0 3 0 (fun p12 => bn_gI h10 a0 3 2 (fun x13 => bn_gd (bn_isC h10 a0 3) (bn_cI (bn_ev 80 0 [some (.ref a0), some (.int ((bn_shl 2 x13) - 1)), none] [] h10) (fun x15 h14 => (bn_sd h14 p12 0 (4 * x11) x15).bind (fun h16 => bn_gR h16 a0 3 0 (fun p17 => (bn_sd h16 p17 0 ((4 * x11) + 1) 1).bind (fun h18 => bn_gR h18 a0 3 0 (fun p19 => (bn_sd h18 p19 0 ((4 * x11) + 2) 0).bind (fun h20 => bn_gR h20 a0 3 0 (fun p21 => (bn_sd h20 p21 0 ((4 * x11) + 3) 0).bind (fun h22 => bn_gI h22 a0 3 4 (fun x23 => (bn_pf h22 a0 3 4 (.int (x23 + 1))).bind (fun h24 => bn_ev 82 78 [some (.ref a0), some (.int (4 * x11))] [] h24))))))))))))))))))) else (bn_ev 82 195 [some (.ref a0), o1] [] h)))))))) else (bn_gI h a0 3 16 (fun x25 => some (some (.int x25), h)))) := by
  refine Eq.trans (be_aload_n bd_82_78 rfl) ?_
  refine Eq.trans (be_getI bd_82_79 bf_3_66 rfl) ?_
  refine bn_gI_c fun x1 => ?_
  refine Eq.trans (be_bipush (v := (-9)) bd_82_82 (by decide)) ?_
  refine Eq.trans (be_icmp_ne (t := 243) bd_82_84 rfl) ?_
  refine bn_if_c ?_ ?_
  · refine Eq.trans (be_aload_n bd_82_87 rfl) ?_
    refine Eq.trans (be_getI bd_82_88 bf_3_69 rfl) ?_
    refine bn_gI_c fun x2 => ?_
    refine Eq.trans (be_aload_n bd_82_91 rfl) ?_
    refine Eq.trans (be_getI bd_82_92 bf_3_61 rfl) ?_
    refine bn_gI_c fun x3 => ?_
    refine Eq.trans (be_icmp_ge (t := 243) bd_82_95 rfl) ?_
    refine bn_if_c ?_ ?_
    · refine Eq.trans (be_aload_n bd_82_243 rfl) ?_
      refine Eq.trans (be_getI bd_82_244 bf_3_66 rfl) ?_
      refine bn_gI_c fun x4 => ?_
      exact be_ireturn bd_82_247 rfl
    · refine Eq.trans (be_aload_n bd_82_98 rfl) ?_
      refine Eq.trans (be_getR bd_82_99 bf_3_16 rfl (Or.inl ⟨_, rfl⟩)) ?_
      refine bn_gR_c fun p5 => ?_
      refine Eq.trans (be_aload_n bd_82_102 rfl) ?_
      refine Eq.trans (be_getI bd_82_103 bf_3_69 rfl) ?_
      refine bn_gI_c fun x6 => ?_
      refine Eq.trans (be_iaload bd_82_106) ?_
      refine bn_bd_c fun x7 => ?_
      refine Eq.trans (be_bipush (v := 80) bd_82_107 (by decide)) ?_
      refine Eq.trans (be_icmp_ne (t := 195) bd_82_109 rfl) ?_
      refine bn_if_c ?_ ?_
      · refine Eq.trans (be_aload_n bd_82_112 rfl) ?_
        refine Eq.trans (be_getI bd_82_113 bf_3_77 rfl) ?_
        refine bn_gI_c fun x8 => ?_
        refine Eq.trans (be_iconst (v := 5) bd_82_116 (by decide)) ?_
        refine Eq.trans (be_icmp_ge (t := 195) bd_82_117 rfl) ?_
        refine bn_if_c ?_ ?_
        · rfl
        · refine Eq.trans (be_aload_n bd_82_120 rfl) ?_
          refine Eq.trans (be_dup bd_82_121 rfl) ?_
          refine Eq.trans (be_getI bd_82_122 bf_3_69 rfl) ?_
          refine bn_gI_c fun x9 => ?_
          refine Eq.trans (be_iconst (v := 1) bd_82_125 (by decide)) ?_
          refine Eq.trans (be_iadd bd_82_126) ?_
          refine Eq.trans (be_putI bd_82_127 bf_3_69 rfl rfl) ?_
          refine bn_bd_c fun h10 => ?_
          refine Eq.trans (be_iconst (v := 4) bd_82_130 (by decide)) ?_
          refine Eq.trans (be_aload_n bd_82_131 rfl) ?_
          refine Eq.trans (be_getI bd_82_132 bf_3_77 rfl) ?_
          refine bn_gI_c fun x11 => ?_
          refine Eq.trans (be_imul bd_82_135) ?_
          refine Eq.trans (be_istore_n (ls' := [some (.ref a0), some (.int (4 * x11))]) bd_82_136 (Nat.le_of_ble_eq_true rfl) rfl) ?_
          refine Eq.trans (be_aload_n bd_82_137 rfl) ?_
          refine Eq.trans (be_getR bd_82_138 bf_3_7 rfl (Or.inl ⟨_, rfl⟩)) ?_
          refine bn_gR_c fun p12 => ?_
          refine Eq.trans (be_iload_n bd_82_141 rfl) ?_
          refine Eq.trans (be_aload_n bd_82_142 rfl) ?_
          refine Eq.trans (be_iconst (v := 2) bd_82_143 (by decide)) ?_
          refine Eq.trans (be_aload_n bd_82_144 rfl) ?_
          refine Eq.trans (be_getI bd_82_145 bf_3_87 rfl) ?_
          refine bn_gI_c fun x13 => ?_
          refine Eq.trans (be_ishl bd_82_148) ?_
          refine Eq.trans (be_iconst (v := 1) bd_82_149 (by decide)) ?_
          refine Eq.trans (be_isub bd_82_150) ?_
          refine Eq.trans (be_virtI (as := [.int ((bn_shl 2 x13) - 1)]) (rr := [.int (4 * x11), .ref p12]) (en := [some (.ref a0), some (.int ((bn_shl 2 x13) - 1)), none]) bd_82_151 bm_3_80 rfl rfl rfl ⟨Nat.le_of_ble_eq_true rfl, Nat.le_of_ble_eq_true rfl, Nat.le_of_ble_eq_true rfl, Nat.le_of_ble_eq_true rfl⟩ (Or.inl rfl)) ?_
          refine bn_gd_c (bn_cI_c fun x15 h14 => ?_)
          refine Eq.trans (be_iastore bd_82_154) ?_
          refine bn_bd_c fun h16 => ?_
          refine Eq.trans (be_aload_n bd_82_155 rfl) ?_
          refine Eq.trans (be_getR bd_82_156 bf_3_7 rfl (Or.inl ⟨_, rfl⟩)) ?_
          refine bn_gR_c fun p17 => ?_
          refine Eq.trans (be_iload_n bd_82_159 rfl) ?_
          refine Eq.trans (be_iconst (v := 1) bd_82_160 (by decide)) ?_
          refine Eq.trans (be_iadd bd_82_161) ?_
          refine Eq.trans (be_iconst (v := 1) bd_82_162 (by decide)) ?_
          refine Eq.trans (be_iastore bd_82_163) ?_
          refine bn_bd_c fun h18 => ?_
          refine Eq.trans (be_aload_n bd_82_164 rfl) ?_
          refine Eq.trans (be_getR bd_82_165 bf_3_7 rfl (Or.inl ⟨_, rfl⟩)) ?_
          refine bn_gR_c fun p19 => ?_
          refine Eq.trans (be_iload_n bd_82_168 rfl) ?_
          refine Eq.trans (be_iconst (v := 2) bd_82_169 (by decide)) ?_
          refine Eq.trans (be_iadd bd_82_170) ?_
          refine Eq.trans (be_iconst (v := 0) bd_82_171 (by decide)) ?_
          refine Eq.trans (be_iastore bd_82_172) ?_
          refine bn_bd_c fun h20 => ?_
          refine Eq.trans (be_aload_n bd_82_173 rfl) ?_
          refine Eq.trans (be_getR bd_82_174 bf_3_7 rfl (Or.inl ⟨_, rfl⟩)) ?_
          refine bn_gR_c fun p21 => ?_
          refine Eq.trans (be_iload_n bd_82_177 rfl) ?_
          refine Eq.trans (be_iconst (v := 3) bd_82_178 (by decide)) ?_
          refine Eq.trans (be_iadd bd_82_179) ?_
          refine Eq.trans (be_iconst (v := 0) bd_82_180 (by decide)) ?_
          refine Eq.trans (be_iastore bd_82_181) ?_
          refine bn_bd_c fun h22 => ?_
          refine Eq.trans (be_aload_n bd_82_182 rfl) ?_
          refine Eq.trans (be_dup bd_82_183 rfl) ?_
          refine Eq.trans (be_getI bd_82_184 bf_3_77 rfl) ?_
          refine bn_gI_c fun x23 => ?_
          refine Eq.trans (be_iconst (v := 1) bd_82_187 (by decide)) ?_
          refine Eq.trans (be_iadd bd_82_188) ?_
          refine Eq.trans (be_putI bd_82_189 bf_3_77 rfl rfl) ?_
          refine bn_bd_c fun h24 => ?_
          refine Eq.trans (be_goto (t := 78) bd_82_192 rfl) ?_
          rfl
      · rfl
  · refine Eq.trans (be_aload_n bd_82_243 rfl) ?_
    refine Eq.trans (be_getI bd_82_244 bf_3_66 rfl) ?_
    refine bn_gI_c fun x25 => ?_
    exact be_ireturn bd_82_247 rfl
theorem bs_X3_readText_195 (a0 : Nat) (o1 : Option Value) (h : bn_H) : bn_ev 82 195 [some (.ref a0), o1] [] h = bn_gR h a0 3 13 (fun p1 => bn_gI h a0 3 15 (fun x2 => (bn_ld h p1 0 x2).bind (fun x3 => if x3 = 76 then (bn_gI h a0 3 5 (fun x4 => if 10 ≤ x4 then (bn_gI h a0 3 15 (fun x5 => (bn_pf h a0 3 16 (.int x5)).bind (fun h6 => bn_ev 82 78 [some (.ref a0), o1] [] h6))) else (bn_gI h a0 3 4 (fun x7 => if x7 ≤ 0 then (bn_gI h a0 3 15 (fun x8 => (bn_pf h a0 3 16 (.int x8)).bind (fun h9 => bn_ev 82 78 [some (.ref a0), o1] [] h9))) else (bn_gd (bn_isC h a0 3) (bn_cV (bn_ev 83 0 [some (.ref a0), none, none, none, none, none] [] h) (fun h10 => bn_ev 82 78 [some (.ref a0), o1] [] h10))))))) else (bn_gI h a0 3 15 (fun x12 => (bn_pf h a0 3 16 (.int x12)).bind (fun h13 => bn_ev 82 78 [some (.ref a0), o1] [] h13)))))) := by
  refine Eq.trans (be_aload_n bd_82_195 rfl) ?_
  refine Eq.trans (be_getR bd_82_196 bf_3_16 rfl (Or.inl ⟨_, rfl⟩)) ?_
  refine bn_gR_c fun p1 => ?_
  refine Eq.trans (be_aload_n bd_82_199 rfl) ?_
  refine Eq.trans (be_getI bd_82_200 bf_3_69 rfl) ?_
  refine bn_gI_c fun x2 => ?_
  refine Eq.trans (be_iaload bd_82_203) ?_
  refine bn_bd_c fun x3 => ?_
  refine Eq.trans (be_bipush (v := 76) bd_82_204 (by decide)) ?_
  refine Eq.trans (be_icmp_ne (t := 232) bd_82_206 rfl) ?_
  refine bn_if_c ?_ ?_
  · refine Eq.trans (be_aload_n bd_82_209 rfl) ?_
    refine Eq.trans (be_getI bd_82_210 bf_3_74 rfl) ?_
    refine bn_gI_c fun x4 => ?_
    refine Eq.trans (be_bipush (v := 10) bd_82_213 (by decide)) ?_
    refine Eq.trans (be_icmp_ge (t := 232) bd_82_215 rfl) ?_
    refine bn_if_c ?_ ?_
    · refine Eq.trans (be_aload_n bd_82_232 rfl) ?_
      refine Eq.trans (be_aload_n bd_82_233 rfl) ?_
      refine Eq.trans (be_getI bd_82_234 bf_3_69 rfl) ?_
      refine bn_gI_c fun x5 => ?_
      refine Eq.trans (be_putI bd_82_237 bf_3_66 rfl rfl) ?_
      refine bn_bd_c fun h6 => ?_
      refine Eq.trans (be_goto (t := 78) bd_82_240 rfl) ?_
      rfl
    · refine Eq.trans (be_aload_n bd_82_218 rfl) ?_
      refine Eq.trans (be_getI bd_82_219 bf_3_77 rfl) ?_
      refine bn_gI_c fun x7 => ?_
      refine Eq.trans (be_if_le (t := 232) bd_82_222 rfl) ?_
      refine bn_if_c ?_ ?_
      · refine Eq.trans (be_aload_n bd_82_232 rfl) ?_
        refine Eq.trans (be_aload_n bd_82_233 rfl) ?_
        refine Eq.trans (be_getI bd_82_234 bf_3_69 rfl) ?_
        refine bn_gI_c fun x8 => ?_
        refine Eq.trans (be_putI bd_82_237 bf_3_66 rfl rfl) ?_
        refine bn_bd_c fun h9 => ?_
        refine Eq.trans (be_goto (t := 78) bd_82_240 rfl) ?_
        rfl
      · refine Eq.trans (be_aload_n bd_82_225 rfl) ?_
        refine Eq.trans (be_virtV (as := []) (rr := []) (en := [some (.ref a0), none, none, none, none, none]) bd_82_226 bm_3_93 rfl rfl rfl ⟨Nat.le_of_ble_eq_true rfl, Nat.le_of_ble_eq_true rfl, Nat.le_of_ble_eq_true rfl, Nat.le_of_ble_eq_true rfl⟩ rfl) ?_
        refine bn_gd_c (bn_cV_c fun h10 => ?_)
        refine Eq.trans (be_goto (t := 78) bd_82_229 rfl) ?_
        rfl
  · refine Eq.trans (be_aload_n bd_82_232 rfl) ?_
    refine Eq.trans (be_aload_n bd_82_233 rfl) ?_
    refine Eq.trans (be_getI bd_82_234 bf_3_69 rfl) ?_
    refine bn_gI_c fun x12 => ?_
    refine Eq.trans (be_putI bd_82_237 bf_3_66 rfl rfl) ?_
    refine bn_bd_c fun h13 => ?_
    refine Eq.trans (be_goto (t := 78) bd_82_240 rfl) ?_
    rfl
theorem bs_X3_readLoaf_0 (a0 : Nat) (h : bn_H) : bn_ev 83 0 [some (.ref a0), none, none, none, none, none] [] h = bn_gI h a0 3 15 (fun x1 => (bn_pf h a0 3 15 (.int (x1 + 1))).bind (fun h2 => bn_ev 83 14 [some (.ref a0), some (.int 0), some (.int 0), none, none, none] [] h2)) := by
  refine Eq.trans (be_aload_n bd_83_0 rfl) ?_
  refine Eq.trans (be_dup bd_83_1 rfl) ?_
  refine Eq.trans (be_getI bd_83_2 bf_3_69 rfl) ?_
  refine bn_gI_c fun x1 => ?_
  refine Eq.trans (be_iconst (v := 1) bd_83_5 (by decide)) ?_
  refine Eq.trans (be_iadd bd_83_6) ?_
  refine Eq.trans (be_putI bd_83_7 bf_3_69 rfl rfl) ?_
  refine bn_bd_c fun h2 => ?_
  refine Eq.trans (be_iconst (v := 0) bd_83_10 (by decide)) ?_
  refine Eq.trans (be_istore_n (ls' := [some (.ref a0), some (.int 0), none, none, none, none]) bd_83_11 (Nat.le_of_ble_eq_true rfl) rfl) ?_
  refine Eq.trans (be_iconst (v := 0) bd_83_12 (by decide)) ?_
  refine Eq.trans (be_istore_n (ls' := [some (.ref a0), some (.int 0), some (.int 0), none, none, none]) bd_83_13 (Nat.le_of_ble_eq_true rfl) rfl) ?_
  rfl
theorem bs_X3_readLoaf_14 (a0 : Nat) (a1 : Int32) (a2 : Int32) (o3 : Option Value) (o4 : Option Value) (o5 : Option Value) (h : bn_H) : bn_ev 83 14 [some (.ref a0), some (.int a1), some (.int a2), o3, o4, o5] [] h = if 10 ≤ a2 then (bn_gd (bn_isC h a0 3) (bn_cI (bn_ev 80 0 [some (.ref a0), some (.int a1), none] [] h) (fun x2 h1 => bn_gd (bn_isC h1 a0 3) (bn_cI (bn_ev 81 0 [some (.ref a0), some (.int x2), none, none, none] [] h1) (fun x4 h3 => bn_gd (bn_isC h3 a0 3) (bn_cI (bn_ev 80 0 [some (.ref a0), some (.int x4), none] [] h3) (fun x6 h5 => bn_gI h5 a0 3 4 (fun x7 => bn_gd (bn_isC h5 a0 3) (bn_cI (bn_ev 80 0 [some (.ref a0), some (.int ((bn_shl 1 x7) - 1)), none] [] h5) (fun x9 h8 => bn_gI h8 a0 3 5 (fun x10 => bn_gR h8 a0 3 0 (fun p11 => (bn_sd h8 p11 0 (20 + (5 * x10)) ((10 * x2) + x6)).bind (fun h12 => bn_gR h12 a0 3 0 (fun p13 => (bn_sd h12 p13 0 ((20 + (5 * x10)) + 1) x9).bind (fun h14 => bn_gR h14 a0 3 0 (fun p15 => bn_gd (bn_isC h14 a0 3) (bn_cI (bn_ev 80 0 [some (.ref a0), some (.int 1023), none] [] h14) (fun x17 h16 => (bn_sd h16 p15 0 ((20 + (5 * x10)) + 2) x17).bind (fun h18 => bn_gR h18 a0 3 0 (fun p19 => (bn_sd h18 p19 0 ((20 + (5 * x10)) + 3) (-9)).bind (fun h20 => bn_gR h20 a0 3 0 (fun p21 => (bn_sd h20 p21 0 ((20 + (5 * x10)) + 4) (-9)).bind (fun h22 => bn_gI h22 a0 3 5 (fun x23 => (bn_pf h22 a0 3 5 (.int (x23 + 1))).bind (fun h24 => some (none, h24)))))))))))))))))))))))))) else (bn_gd (bn_isC h a0 3) (bn_cI (bn_ev 81 0 [some (.ref a0), some (.int a2), none, none, none] [] h) (fun x26 h25 => bn_ev 83 14 [some (.ref a0), some (.int (a1 ||| (if x26 = 0 then 0 else bn_shl 1 a2))), some (.int (a2 + 1)), o3, o4, o5] [] h25))) := by
  refine Eq.trans (be_iload_n bd_83_14 rfl) ?_
  refine Eq.trans (be_bipush (v := 10) bd_83_15 (by decide)) ?_
  refine Eq.trans (be_icmp_ge (t := 44) bd_83_17 rfl) ?_
  refine bn_if_c ?_ ?_
  · refine Eq.trans (be_aload_n bd_83_44 rfl) ?_
    refine Eq.trans (be_iload_n bd_83_45 rfl) ?_
    refine Eq.trans (be_virtI (as := [.int a1]) (rr := []) (en := [some (.ref a0), some (.int a1), none]) bd_83_46 bm_3_80 rfl rfl rfl ⟨Nat.le_of_ble_eq_true rfl, Nat.le_of_ble_eq_true rfl, Nat.le_of_ble_eq_true rfl, Nat.le_of_ble_eq_true rfl⟩ (Or.inl rfl)) ?_
    refine bn_gd_c (bn_cI_c fun x2 h1 => ?_)
    refine Eq.trans (be_istore_n (ls' := [some (.ref a0), some (.int a1), some (.int x2), o3, o4, o5]) bd_83_49 (Nat.le_of_ble_eq_true rfl) rfl) ?_
    refine Eq.trans (be_bipush (v := 10) bd_83_50 (by decide)) ?_
    refine Eq.trans (be_iload_n bd_83_52 rfl) ?_
    refine Eq.trans (be_imul bd_83_53) ?_
    refine Eq.trans (be_aload_n bd_83_54 rfl) ?_
    refine Eq.trans (be_aload_n bd_83_55 rfl) ?_
    refine Eq.trans (be_iload_n bd_83_56 rfl) ?_
    refine Eq.trans (be_virtI (as := [.int x2]) (rr := [.ref a0, .int (10 * x2)]) (en := [some (.ref a0), some (.int x2), none, none, none]) bd_83_57 bm_3_96 rfl rfl rfl ⟨Nat.le_of_ble_eq_true rfl, Nat.le_of_ble_eq_true rfl, Nat.le_of_ble_eq_true rfl, Nat.le_of_ble_eq_true rfl⟩ (Or.inl rfl)) ?_
    refine bn_gd_c (bn_cI_c fun x4 h3 => ?_)
    refine Eq.trans (be_virtI (as := [.int x4]) (rr := [.int (10 * x2)]) (en := [some (.ref a0), some (.int x4), none]) bd_83_60 bm_3_80 rfl rfl rfl ⟨Nat.le_of_ble_eq_true rfl, Nat.le_of_ble_eq_true rfl, Nat.le_of_ble_eq_true rfl, Nat.le_of_ble_eq_true rfl⟩ (Or.inl rfl)) ?_
    refine bn_gd_c (bn_cI_c fun x6 h5 => ?_)
    refine Eq.trans (be_iadd bd_83_63) ?_
    refine Eq.trans (be_istore_n (ls' := [some (.ref a0), some (.int a1), some (.int x2), some (.int ((10 * x2) + x6)), o4, o5]) bd_83_64 (Nat.le_of_ble_eq_true rfl) rfl) ?_
    refine Eq.trans (be_aload_n bd_83_65 rfl) ?_
    refine Eq.trans (be_iconst (v := 1) bd_83_66 (by decide)) ?_
    refine Eq.trans (be_aload_n bd_83_67 rfl) ?_
    refine Eq.trans (be_getI bd_83_68 bf_3_77 rfl) ?_
    refine bn_gI_c fun x7 => ?_
    refine Eq.trans (be_ishl bd_83_71) ?_
    refine Eq.trans (be_iconst (v := 1) bd_83_72 (by decide)) ?_
    refine Eq.trans (be_isub bd_83_73) ?_
    refine Eq.trans (be_virtI (as := [.int ((bn_shl 1 x7) - 1)]) (rr := []) (en := [some (.ref a0), some (.int ((bn_shl 1 x7) - 1)), none]) bd_83_74 bm_3_80 rfl rfl rfl ⟨Nat.le_of_ble_eq_true rfl, Nat.le_of_ble_eq_true rfl, Nat.le_of_ble_eq_true rfl, Nat.le_of_ble_eq_true rfl⟩ (Or.inl rfl)) ?_
    refine bn_gd_c (bn_cI_c fun x9 h8 => ?_)
    refine Eq.trans (be_istore (ls' := [some (.ref a0), some (.int a1), some (.int x2), some (.int ((10 * x2) + x6)), some (.int x9), o5]) bd_83_77 (Nat.le_of_ble_eq_true rfl) rfl) ?_
    refine Eq.trans (be_bipush (v := 20) bd_83_79 (by decide)) ?_
    refine Eq.trans (be_iconst (v := 5) bd_83_81 (by decide)) ?_
    refine Eq.trans (be_aload_n bd_83_82 rfl) ?_
    refine Eq.trans (be_getI bd_83_83 bf_3_74 rfl) ?_
    refine bn_gI_c fun x10 => ?_
    refine Eq.trans (be_imul bd_83_86) ?_
    refine Eq.trans (be_iadd bd_83_87) ?_
    refine Eq.trans (be_istore (ls' := [some (.ref a0), some (.int a1), some (.int x2), some (.int ((10 * x2) + x6)), some (.int x9), some (.int (20 + (5 * x10)))]) bd_83_88 (Nat.le_of_ble_eq_true rfl) rfl) ?_
    refine Eq.trans (be_aload_n bd_83_90 rfl) ?_
    refine Eq.trans (be_getR bd_83_91 bf_3_7 rfl (Or.inl ⟨_, rfl⟩)) ?_
    refine bn_gR_c fun p11 => ?_
    refine Eq.trans (be_iload bd_83_94 rfl) ?_
    refine Eq.trans (be_iload_n bd_83_96 rfl) ?_
    refine Eq.trans (be_iastore bd_83_97) ?_
    refine bn_bd_c fun h12 => ?_
    refine Eq.trans (be_aload_n bd_83_98 rfl) ?_
    refine Eq.trans (be_getR bd_83_99 bf_3_7 rfl (Or.inl ⟨_, rfl⟩)) ?_
    refine bn_gR_c fun p13 => ?_
    refine Eq.trans (be_iload bd_83_102 rfl) ?_
    refine Eq.trans (be_iconst (v := 1) bd_83_104 (by decide)) ?_
    refine Eq.trans (be_iadd bd_83_105) ?_
    refine Eq.trans (be_iload bd_83_106 rfl) ?_
    refine Eq.trans (be_iastore bd_83_108) ?_
    refine bn_bd_c fun h14 => ?_
    refine Eq.trans (be_aload_n bd_83_109 rfl) ?_
    refine Eq.trans (be_getR bd_83_110 bf_3_7 rfl (Or.inl ⟨_, rfl⟩)) ?_
    refine bn_gR_c fun p15 => ?_
    refine Eq.trans (be_iload bd_83_113 rfl) ?_
    refine Eq.trans (be_iconst (v := 2) bd_83_115 (by decide)) ?_
    refine Eq.trans (be_iadd bd_83_116) ?_
    refine Eq.trans (be_aload_n bd_83_117 rfl) ?_
    refine Eq.trans (be_sipush (v := 1023) bd_83_118 (by decide)) ?_
    refine Eq.trans (be_virtI (as := [.int 1023]) (rr := [.int ((20 + (5 * x10)) + 2), .ref p15]) (en := [some (.ref a0), some (.int 1023), none]) bd_83_121 bm_3_80 rfl rfl rfl ⟨Nat.le_of_ble_eq_true rfl, Nat.le_of_ble_eq_true rfl, Nat.le_of_ble_eq_true rfl, Nat.le_of_ble_eq_true rfl⟩ (Or.inl rfl)) ?_
    refine bn_gd_c (bn_cI_c fun x17 h16 => ?_)
    refine Eq.trans (be_iastore bd_83_124) ?_
    refine bn_bd_c fun h18 => ?_
    refine Eq.trans (be_aload_n bd_83_125 rfl) ?_
    refine Eq.trans (be_getR bd_83_126 bf_3_7 rfl (Or.inl ⟨_, rfl⟩)) ?_
    refine bn_gR_c fun p19 => ?_
    refine Eq.trans (be_iload bd_83_129 rfl) ?_
    refine Eq.trans (be_iconst (v := 3) bd_83_131 (by decide)) ?_
    refine Eq.trans (be_iadd bd_83_132) ?_
    refine Eq.trans (be_bipush (v := (-9)) bd_83_133 (by decide)) ?_
    refine Eq.trans (be_iastore bd_83_135) ?_
    refine bn_bd_c fun h20 => ?_
    refine Eq.trans (be_aload_n bd_83_136 rfl) ?_
    refine Eq.trans (be_getR bd_83_137 bf_3_7 rfl (Or.inl ⟨_, rfl⟩)) ?_
    refine bn_gR_c fun p21 => ?_
    refine Eq.trans (be_iload bd_83_140 rfl) ?_
    refine Eq.trans (be_iconst (v := 4) bd_83_142 (by decide)) ?_
    refine Eq.trans (be_iadd bd_83_143) ?_
    refine Eq.trans (be_bipush (v := (-9)) bd_83_144 (by decide)) ?_
    refine Eq.trans (be_iastore bd_83_146) ?_
    refine bn_bd_c fun h22 => ?_
    refine Eq.trans (be_aload_n bd_83_147 rfl) ?_
    refine Eq.trans (be_dup bd_83_148 rfl) ?_
    refine Eq.trans (be_getI bd_83_149 bf_3_74 rfl) ?_
    refine bn_gI_c fun x23 => ?_
    refine Eq.trans (be_iconst (v := 1) bd_83_152 (by decide)) ?_
    refine Eq.trans (be_iadd bd_83_153) ?_
    refine Eq.trans (be_putI bd_83_154 bf_3_74 rfl rfl) ?_
    refine bn_bd_c fun h24 => ?_
    exact be_return bd_83_157 rfl
  · refine Eq.trans (be_iload_n bd_83_20 rfl) ?_
    refine Eq.trans (be_aload_n bd_83_21 rfl) ?_
    refine Eq.trans (be_iload_n bd_83_22 rfl) ?_
    refine Eq.trans (be_virtI (as := [.int a2]) (rr := [.int a1]) (en := [some (.ref a0), some (.int a2), none, none, none]) bd_83_23 bm_3_96 rfl rfl rfl ⟨Nat.le_of_ble_eq_true rfl, Nat.le_of_ble_eq_true rfl, Nat.le_of_ble_eq_true rfl, Nat.le_of_ble_eq_true rfl⟩ (Or.inl rfl)) ?_
    refine bn_gd_c (bn_cI_c fun x26 h25 => ?_)
    refine Eq.trans (be_if_eq (t := 35) bd_83_26 rfl) ?_
    refine Eq.trans (bn_dia (J := 36) (a := 0) (b := bn_shl 1 a2) (by
      refine Eq.trans (be_iconst (v := 0) bd_83_35 (by decide)) ?_
      rfl) (by
      refine Eq.trans (be_iconst (v := 1) bd_83_29 (by decide)) ?_
      refine Eq.trans (be_iload_n bd_83_30 rfl) ?_
      refine Eq.trans (be_ishl bd_83_31) ?_
      refine Eq.trans (be_goto (t := 36) bd_83_32 rfl) ?_
      rfl)) ?_
    refine Eq.trans (be_ior bd_83_36) ?_
    refine Eq.trans (be_istore_n (ls' := [some (.ref a0), some (.int (a1 ||| (if x26 = 0 then 0 else bn_shl 1 a2))), some (.int a2), o3, o4, o5]) bd_83_37 (Nat.le_of_ble_eq_true rfl) rfl) ?_
    refine Eq.trans (be_iinc (v := 1) (ls' := [some (.ref a0), some (.int (a1 ||| (if x26 = 0 then 0 else bn_shl 1 a2))), some (.int (a2 + 1)), o3, o4, o5]) bd_83_38 rfl (by decide) (Nat.le_of_ble_eq_true rfl) rfl) ?_
    refine Eq.trans (be_goto (t := 14) bd_83_41 rfl) ?_
    rfl
theorem bs_X3_fault_0 (a0 : Nat) (h : bn_H) : bn_ev 84 0 [some (.ref a0)] [] h = bn_gd (bn_isC h a0 3) (bn_cI (bn_ev 82 0 [some (.ref a0), none] [] h) (fun x2 h1 => some (some (.int x2), h1))) := by
  refine Eq.trans (be_aload_n bd_84_0 rfl) ?_
  refine Eq.trans (be_virtI (as := []) (rr := []) (en := [some (.ref a0), none]) bd_84_1 bm_3_99 rfl rfl rfl ⟨Nat.le_of_ble_eq_true rfl, Nat.le_of_ble_eq_true rfl, Nat.le_of_ble_eq_true rfl, Nat.le_of_ble_eq_true rfl⟩ (Or.inl rfl)) ?_
  refine bn_gd_c (bn_cI_c fun x2 h1 => ?_)
  exact be_ireturn bd_84_4 rfl
theorem bs_X3_siege_0 (a0 : Nat) (h : bn_H) : bn_ev 85 0 [some (.ref a0), none] [] h = bn_gd (bn_isC h a0 3) (bn_cI (bn_ev 82 0 [some (.ref a0), none] [] h) (fun x2 h1 => if x2 = (-9) then (bn_ev 85 14 [some (.ref a0), some (.int 0)] [] h1) else (some (some (.int (-3)), h1)))) := by
  refine Eq.trans (be_aload_n bd_85_0 rfl) ?_
  refine Eq.trans (be_virtI (as := []) (rr := []) (en := [some (.ref a0), none]) bd_85_1 bm_3_99 rfl rfl rfl ⟨Nat.le_of_ble_eq_true rfl, Nat.le_of_ble_eq_true rfl, Nat.le_of_ble_eq_true rfl, Nat.le_of_ble_eq_true rfl⟩ (Or.inl rfl)) ?_
  refine bn_gd_c (bn_cI_c fun x2 h1 => ?_)
  refine Eq.trans (be_bipush (v := (-9)) bd_85_4 (by decide)) ?_
  refine Eq.trans (be_icmp_eq (t := 12) bd_85_6 rfl) ?_
  refine bn_if_c ?_ ?_
  · refine Eq.trans (be_iconst (v := 0) bd_85_12 (by decide)) ?_
    refine Eq.trans (be_istore_n (ls' := [some (.ref a0), some (.int 0)]) bd_85_13 (Nat.le_of_ble_eq_true rfl) rfl) ?_
    rfl
  · refine Eq.trans (be_bipush (v := (-3)) bd_85_9 (by decide)) ?_
    exact be_ireturn bd_85_11 rfl
theorem bs_X3_siege_14 (a0 : Nat) (a1 : Int32) (h : bn_H) : bn_ev 85 14 [some (.ref a0), some (.int a1)] [] h = if 70 ≤ a1 then (bn_gR h a0 3 6 (fun p1 => (bn_sd h p1 0 70 0).bind (fun h2 => bn_gI h2 a0 3 1 (fun x3 => (bn_pf h2 a0 3 7 (.int x3)).bind (fun h4 => bn_gI h4 a0 3 2 (fun x5 => (bn_pf h4 a0 3 8 (.int x5)).bind (fun h6 => bn_gI h6 a0 3 3 (fun x7 => (bn_pf h6 a0 3 9 (.int x7)).bind (fun h8 => bn_gI h8 a0 3 4 (fun x9 => (bn_pf h8 a0 3 10 (.int x9)).bind (fun h10 => bn_gI h10 a0 3 5 (fun x11 => (bn_pf h10 a0 3 11 (.int x11)).bind (fun h12 => (bn_pf h12 a0 3 17 (.int 0)).bind (fun h13 => bn_gR h13 a0 3 26 (fun p14 => (bn_sd h13 p14 1 0 (vp_nar .boolean 0)).bind (fun h15 => bn_gR h15 a0 3 26 (fun p16 => (bn_sd h15 p16 1 1 (vp_nar .boolean 0)).bind (fun h17 => bn_gI h17 a0 3 10 (fun x18 => bn_gI h17 a0 3 11 (fun x19 => some (some (.int ((100 * x18) + x19)), h17))))))))))))))))))))) else (bn_gR h a0 3 6 (fun p20 => bn_gR h a0 3 0 (fun p21 => (bn_ld h p21 0 a1).bind (fun x22 => (bn_sd h p20 0 a1 x22).bind (fun h23 => bn_ev 85 14 [some (.ref a0), some (.int (a1 + 1))] [] h23))))) := by
  refine Eq.trans (be_iload_n bd_85_14 rfl) ?_
  refine Eq.trans (be_bipush (v := 70) bd_85_15 (by decide)) ?_
  refine Eq.trans (be_icmp_ge (t := 38) bd_85_17 rfl) ?_
  refine bn_if_c ?_ ?_
  · refine Eq.trans (be_aload_n bd_85_38 rfl) ?_
    refine Eq.trans (be_getR bd_85_39 bf_3_13 rfl (Or.inl ⟨_, rfl⟩)) ?_
    refine bn_gR_c fun p1 => ?_
    refine Eq.trans (be_bipush (v := 70) bd_85_42 (by decide)) ?_
    refine Eq.trans (be_iconst (v := 0) bd_85_44 (by decide)) ?_
    refine Eq.trans (be_iastore bd_85_45) ?_
    refine bn_bd_c fun h2 => ?_
    refine Eq.trans (be_aload_n bd_85_46 rfl) ?_
    refine Eq.trans (be_aload_n bd_85_47 rfl) ?_
    refine Eq.trans (be_getI bd_85_48 bf_3_84 rfl) ?_
    refine bn_gI_c fun x3 => ?_
    refine Eq.trans (be_putI bd_85_51 bf_3_103 rfl rfl) ?_
    refine bn_bd_c fun h4 => ?_
    refine Eq.trans (be_aload_n bd_85_54 rfl) ?_
    refine Eq.trans (be_aload_n bd_85_55 rfl) ?_
    refine Eq.trans (be_getI bd_85_56 bf_3_87 rfl) ?_
    refine bn_gI_c fun x5 => ?_
    refine Eq.trans (be_putI bd_85_59 bf_3_48 rfl rfl) ?_
    refine bn_bd_c fun h6 => ?_
    refine Eq.trans (be_aload_n bd_85_62 rfl) ?_
    refine Eq.trans (be_aload_n bd_85_63 rfl) ?_
    refine Eq.trans (be_getI bd_85_64 bf_3_90 rfl) ?_
    refine bn_gI_c fun x7 => ?_
    refine Eq.trans (be_putI bd_85_67 bf_3_52 rfl rfl) ?_
    refine bn_bd_c fun h8 => ?_
    refine Eq.trans (be_aload_n bd_85_70 rfl) ?_
    refine Eq.trans (be_aload_n bd_85_71 rfl) ?_
    refine Eq.trans (be_getI bd_85_72 bf_3_77 rfl) ?_
    refine bn_gI_c fun x9 => ?_
    refine Eq.trans (be_putI bd_85_75 bf_3_106 rfl rfl) ?_
    refine bn_bd_c fun h10 => ?_
    refine Eq.trans (be_aload_n bd_85_78 rfl) ?_
    refine Eq.trans (be_aload_n bd_85_79 rfl) ?_
    refine Eq.trans (be_getI bd_85_80 bf_3_74 rfl) ?_
    refine bn_gI_c fun x11 => ?_
    refine Eq.trans (be_putI bd_85_83 bf_3_109 rfl rfl) ?_
    refine bn_bd_c fun h12 => ?_
    refine Eq.trans (be_aload_n bd_85_86 rfl) ?_
    refine Eq.trans (be_iconst (v := 0) bd_85_87 (by decide)) ?_
    refine Eq.trans (be_putI bd_85_88 bf_3_112 rfl rfl) ?_
    refine bn_bd_c fun h13 => ?_
    refine Eq.trans (be_aload_n bd_85_91 rfl) ?_
    refine Eq.trans (be_getR bd_85_92 bf_3_39 rfl (Or.inl ⟨_, rfl⟩)) ?_
    refine bn_gR_c fun p14 => ?_
    refine Eq.trans (be_iconst (v := 0) bd_85_95 (by decide)) ?_
    refine Eq.trans (be_iconst (v := 0) bd_85_96 (by decide)) ?_
    refine Eq.trans (be_bastore bd_85_97) ?_
    refine bn_bd_c fun h15 => ?_
    refine Eq.trans (be_aload_n bd_85_98 rfl) ?_
    refine Eq.trans (be_getR bd_85_99 bf_3_39 rfl (Or.inl ⟨_, rfl⟩)) ?_
    refine bn_gR_c fun p16 => ?_
    refine Eq.trans (be_iconst (v := 1) bd_85_102 (by decide)) ?_
    refine Eq.trans (be_iconst (v := 0) bd_85_103 (by decide)) ?_
    refine Eq.trans (be_bastore bd_85_104) ?_
    refine bn_bd_c fun h17 => ?_
    refine Eq.trans (be_bipush (v := 100) bd_85_105 (by decide)) ?_
    refine Eq.trans (be_aload_n bd_85_107 rfl) ?_
    refine Eq.trans (be_getI bd_85_108 bf_3_106 rfl) ?_
    refine bn_gI_c fun x18 => ?_
    refine Eq.trans (be_imul bd_85_111) ?_
    refine Eq.trans (be_aload_n bd_85_112 rfl) ?_
    refine Eq.trans (be_getI bd_85_113 bf_3_109 rfl) ?_
    refine bn_gI_c fun x19 => ?_
    refine Eq.trans (be_iadd bd_85_116) ?_
    exact be_ireturn bd_85_117 rfl
  · refine Eq.trans (be_aload_n bd_85_20 rfl) ?_
    refine Eq.trans (be_getR bd_85_21 bf_3_13 rfl (Or.inl ⟨_, rfl⟩)) ?_
    refine bn_gR_c fun p20 => ?_
    refine Eq.trans (be_iload_n bd_85_24 rfl) ?_
    refine Eq.trans (be_aload_n bd_85_25 rfl) ?_
    refine Eq.trans (be_getR bd_85_26 bf_3_7 rfl (Or.inl ⟨_, rfl⟩)) ?_
    refine bn_gR_c fun p21 => ?_
    refine Eq.trans (be_iload_n bd_85_29 rfl) ?_
    refine Eq.trans (be_iaload bd_85_30) ?_
    refine bn_bd_c fun x22 => ?_
    refine Eq.trans (be_iastore bd_85_31) ?_
    refine bn_bd_c fun h23 => ?_
    refine Eq.trans (be_iinc (v := 1) (ls' := [some (.ref a0), some (.int (a1 + 1))]) bd_85_32 rfl (by decide) (Nat.le_of_ble_eq_true rfl) rfl) ?_
    refine Eq.trans (be_goto (t := 14) bd_85_35 rfl) ?_
    rfl
theorem bs_X3_isPerson_0 (a0 : Nat) (a1 : Int32) (h : bn_H) : bn_ev 86 0 [some (.ref a0), some (.int a1)] [] h = bn_gI h a0 3 10 (fun x1 => bn_cI (bn_ev 77 0 [some (.long a1.toInt64), none, some (.long 0), none, some (.long ((x1 - 1).toInt64)), none] [] h) (fun x3 h2 => if x3 = 0 ∨ x3 = 1 then some (some (.int x3), h2) else none)) := by
  refine Eq.trans (be_iload_n bd_86_0 rfl) ?_
  refine Eq.trans (be_i2l bd_86_1) ?_
  refine Eq.trans (be_lconst (v := 0) bd_86_2 (by decide)) ?_
  refine Eq.trans (be_aload_n bd_86_3 rfl) ?_
  refine Eq.trans (be_getI bd_86_4 bf_3_106 rfl) ?_
  refine bn_gI_c fun x1 => ?_
  refine Eq.trans (be_iconst (v := 1) bd_86_7 (by decide)) ?_
  refine Eq.trans (be_isub bd_86_8) ?_
  refine Eq.trans (be_i2l bd_86_9) ?_
  refine Eq.trans (be_statI (as := [.long ((x1 - 1).toInt64), .long 0, .long a1.toInt64]) (rr := []) (en := [some (.long a1.toInt64), none, some (.long 0), none, some (.long ((x1 - 1).toInt64)), none]) bd_86_10 bm_3_57 rfl rfl rfl ⟨Nat.le_of_ble_eq_true rfl, Nat.le_of_ble_eq_true rfl, Nat.le_of_ble_eq_true rfl, Nat.le_of_ble_eq_true rfl⟩ (Or.inr rfl)) ?_
  refine bn_cI_c fun x3 h2 => ?_
  exact be_zreturn bd_86_13 rfl
theorem bs_X3_isLoaf_0 (a0 : Nat) (a1 : Int32) (h : bn_H) : bn_ev 87 0 [some (.ref a0), some (.int a1)] [] h = bn_gI h a0 3 11 (fun x1 => bn_cI (bn_ev 77 0 [some (.long a1.toInt64), none, some (.long 0), none, some (.long ((x1 - 1).toInt64)), none] [] h) (fun x3 h2 => if x3 = 0 ∨ x3 = 1 then some (some (.int x3), h2) else none)) := by
  refine Eq.trans (be_iload_n bd_87_0 rfl) ?_
  refine Eq.trans (be_i2l bd_87_1) ?_
  refine Eq.trans (be_lconst (v := 0) bd_87_2 (by decide)) ?_
  refine Eq.trans (be_aload_n bd_87_3 rfl) ?_
  refine Eq.trans (be_getI bd_87_4 bf_3_109 rfl) ?_
  refine bn_gI_c fun x1 => ?_
  refine Eq.trans (be_iconst (v := 1) bd_87_7 (by decide)) ?_
  refine Eq.trans (be_isub bd_87_8) ?_
  refine Eq.trans (be_i2l bd_87_9) ?_
  refine Eq.trans (be_statI (as := [.long ((x1 - 1).toInt64), .long 0, .long a1.toInt64]) (rr := []) (en := [some (.long a1.toInt64), none, some (.long 0), none, some (.long ((x1 - 1).toInt64)), none]) bd_87_10 bm_3_57 rfl rfl rfl ⟨Nat.le_of_ble_eq_true rfl, Nat.le_of_ble_eq_true rfl, Nat.le_of_ble_eq_true rfl, Nat.le_of_ble_eq_true rfl⟩ (Or.inr rfl)) ?_
  refine bn_cI_c fun x3 h2 => ?_
  exact be_zreturn bd_87_13 rfl
theorem bs_X3_number_0 (a0 : Nat) (a1 : Int32) (h : bn_H) : bn_ev 88 0 [some (.ref a0), some (.int a1)] [] h = bn_gR h a0 3 6 (fun p1 => (bn_ld h p1 0 (20 + (5 * a1))).bind (fun x2 => some (some (.int x2), h))) := by
  refine Eq.trans (be_aload_n bd_88_0 rfl) ?_
  refine Eq.trans (be_getR bd_88_1 bf_3_13 rfl (Or.inl ⟨_, rfl⟩)) ?_
  refine bn_gR_c fun p1 => ?_
  refine Eq.trans (be_bipush (v := 20) bd_88_4 (by decide)) ?_
  refine Eq.trans (be_iconst (v := 5) bd_88_6 (by decide)) ?_
  refine Eq.trans (be_iload_n bd_88_7 rfl) ?_
  refine Eq.trans (be_imul bd_88_8) ?_
  refine Eq.trans (be_iadd bd_88_9) ?_
  refine Eq.trans (be_iaload bd_88_10) ?_
  refine bn_bd_c fun x2 => ?_
  exact be_ireturn bd_88_11 rfl
theorem bs_X3_holder_0 (a0 : Nat) (a1 : Int32) (h : bn_H) : bn_ev 89 0 [some (.ref a0), some (.int a1)] [] h = bn_gR h a0 3 6 (fun p1 => (bn_ld h p1 0 (21 + (5 * a1))).bind (fun x2 => some (some (.int x2), h))) := by
  refine Eq.trans (be_aload_n bd_89_0 rfl) ?_
  refine Eq.trans (be_getR bd_89_1 bf_3_13 rfl (Or.inl ⟨_, rfl⟩)) ?_
  refine bn_gR_c fun p1 => ?_
  refine Eq.trans (be_bipush (v := 21) bd_89_4 (by decide)) ?_
  refine Eq.trans (be_iconst (v := 5) bd_89_6 (by decide)) ?_
  refine Eq.trans (be_iload_n bd_89_7 rfl) ?_
  refine Eq.trans (be_imul bd_89_8) ?_
  refine Eq.trans (be_iadd bd_89_9) ?_
  refine Eq.trans (be_iaload bd_89_10) ?_
  refine bn_bd_c fun x2 => ?_
  exact be_ireturn bd_89_11 rfl
theorem bs_X3_isBad_0 (a0 : Nat) (a1 : Int32) (h : bn_H) : bn_ev 90 0 [some (.ref a0), some (.int a1)] [] h = bn_gR h a0 3 6 (fun p1 => (bn_ld h p1 0 (22 + (5 * a1))).bind (fun x2 => bn_gI h a0 3 9 (fun x3 => some (some (.int (if x2 < x3 then 0 else 1)), h)))) := by
  refine Eq.trans (be_aload_n bd_90_0 rfl) ?_
  refine Eq.trans (be_getR bd_90_1 bf_3_13 rfl (Or.inl ⟨_, rfl⟩)) ?_
  refine bn_gR_c fun p1 => ?_
  refine Eq.trans (be_bipush (v := 22) bd_90_4 (by decide)) ?_
  refine Eq.trans (be_iconst (v := 5) bd_90_6 (by decide)) ?_
  refine Eq.trans (be_iload_n bd_90_7 rfl) ?_
  refine Eq.trans (be_imul bd_90_8) ?_
  refine Eq.trans (be_iadd bd_90_9) ?_
  refine Eq.trans (be_iaload bd_90_10) ?_
  refine bn_bd_c fun x2 => ?_
  refine Eq.trans (be_aload_n bd_90_11 rfl) ?_
  refine Eq.trans (be_getI bd_90_12 bf_3_52 rfl) ?_
  refine bn_gI_c fun x3 => ?_
  refine Eq.trans (be_icmp_lt (t := 22) bd_90_15 rfl) ?_
  refine Eq.trans (bn_dia (J := 23) (a := 0) (b := 1) (by
      refine Eq.trans (be_iconst (v := 0) bd_90_22 (by decide)) ?_
      rfl) (by
      refine Eq.trans (be_iconst (v := 1) bd_90_18 (by decide)) ?_
      refine Eq.trans (be_goto (t := 23) bd_90_19 rfl) ?_
      rfl)) ?_
  exact be_z0 bd_90_23 rfl (by split <;> simp)
theorem bs_X3_held_0 (a0 : Nat) (a1 : Int32) (h : bn_H) : bn_ev 91 0 [some (.ref a0), some (.int a1), none, none] [] h = bn_ev 91 4 [some (.ref a0), some (.int a1), some (.int 0), some (.int 0)] [] h := by
  refine Eq.trans (be_iconst (v := 0) bd_91_0 (by decide)) ?_
  refine Eq.trans (be_istore_n (ls' := [some (.ref a0), some (.int a1), some (.int 0), none]) bd_91_1 (Nat.le_of_ble_eq_true rfl) rfl) ?_
  refine Eq.trans (be_iconst (v := 0) bd_91_2 (by decide)) ?_
  refine Eq.trans (be_istore_n (ls' := [some (.ref a0), some (.int a1), some (.int 0), some (.int 0)]) bd_91_3 (Nat.le_of_ble_eq_true rfl) rfl) ?_
  rfl
theorem bs_X3_held_4 (a0 : Nat) (a1 : Int32) (a2 : Int32) (a3 : Int32) (h : bn_H) : bn_ev 91 4 [some (.ref a0), some (.int a1), some (.int a2), some (.int a3)] [] h = bn_gI h a0 3 11 (fun x1 => if x1 ≤ a3 then (some (some (.int a2), h)) else (bn_gd (bn_isC h a0 3) (bn_cI (bn_ev 89 0 [some (.ref a0), some (.int a3)] [] h) (fun x3 h2 => bn_ev 91 4 [some (.ref a0), some (.int a1), some (.int (a2 ||| (if x3 = a1 then bn_shl 1 a3 else 0))), some (.int (a3 + 1))] [] h2)))) := by
  refine Eq.trans (be_iload_n bd_91_4 rfl) ?_
  refine Eq.trans (be_aload_n bd_91_5 rfl) ?_
  refine Eq.trans (be_getI bd_91_6 bf_3_109 rfl) ?_
  refine bn_gI_c fun x1 => ?_
  refine Eq.trans (be_icmp_ge (t := 37) bd_91_9 rfl) ?_
  refine bn_if_c ?_ ?_
  · refine Eq.trans (be_iload_n bd_91_37 rfl) ?_
    exact be_ireturn bd_91_38 rfl
  · refine Eq.trans (be_iload_n bd_91_12 rfl) ?_
    refine Eq.trans (be_aload_n bd_91_13 rfl) ?_
    refine Eq.trans (be_iload_n bd_91_14 rfl) ?_
    refine Eq.trans (be_virtI (as := [.int a3]) (rr := [.int a2]) (en := [some (.ref a0), some (.int a3)]) bd_91_15 bm_3_115 rfl rfl rfl ⟨Nat.le_of_ble_eq_true rfl, Nat.le_of_ble_eq_true rfl, Nat.le_of_ble_eq_true rfl, Nat.le_of_ble_eq_true rfl⟩ (Or.inl rfl)) ?_
    refine bn_gd_c (bn_cI_c fun x3 h2 => ?_)
    refine Eq.trans (be_iload_n bd_91_18 rfl) ?_
    refine Eq.trans (be_icmp_ne (t := 28) bd_91_19 rfl) ?_
    refine Eq.trans (bn_dia (J := 29) (a := bn_shl 1 a3) (b := 0) (by
      refine Eq.trans (be_iconst (v := 1) bd_91_22 (by decide)) ?_
      refine Eq.trans (be_iload_n bd_91_23 rfl) ?_
      refine Eq.trans (be_ishl bd_91_24) ?_
      refine Eq.trans (be_goto (t := 29) bd_91_25 rfl) ?_
      rfl) (by
      refine Eq.trans (be_iconst (v := 0) bd_91_28 (by decide)) ?_
      rfl)) ?_
    refine Eq.trans (be_ior bd_91_29) ?_
    refine Eq.trans (be_istore_n (ls' := [some (.ref a0), some (.int a1), some (.int (a2 ||| (if x3 = a1 then bn_shl 1 a3 else 0))), some (.int a3)]) bd_91_30 (Nat.le_of_ble_eq_true rfl) rfl) ?_
    refine Eq.trans (be_iinc (v := 1) (ls' := [some (.ref a0), some (.int a1), some (.int (a2 ||| (if x3 = a1 then bn_shl 1 a3 else 0))), some (.int (a3 + 1))]) bd_91_31 rfl (by decide) (Nat.le_of_ble_eq_true rfl) rfl) ?_
    refine Eq.trans (be_goto (t := 4) bd_91_34 rfl) ?_
    rfl
theorem bs_X3_person_0 (a0 : Nat) (a1 : Int32) (a2 : Int32) (h : bn_H) : bn_ev 92 0 [some (.ref a0), some (.int a1), some (.int a2)] [] h = bn_gd (bn_isC h a0 3) (bn_cI (bn_ev 86 0 [some (.ref a0), some (.int a1)] [] h) (fun x2 h1 => if x2 = 0 then (some (some (.int (-1)), h1)) else (if a2 = 0 then (bn_ev 92 44 [some (.ref a0), some (.int a1), some (.int a2)] [] h1) else (if a2 = 1 then (bn_ev 92 44 [some (.ref a0), some (.int a1), some (.int a2)] [] h1) else (if a2 = 2 then (bn_ev 92 44 [some (.ref a0), some (.int a1), some (.int a2)] [] h1) else (if a2 = 3 then (bn_gd (bn_isC h1 a0 3) (bn_cI (bn_ev 91 0 [some (.ref a0), some (.int a1), none, none] [] h1) (fun x4 h3 => some (some (.int x4), h3)))) else (if a2 = 4 then (bn_gR h1 a0 3 6 (fun p5 => (bn_ld h1 p5 0 ((4 * a1) + 3)).bind (fun x6 => some (some (.int x6), h1)))) else (some (some (.int (-2)), h1))))))))) := by
  refine Eq.trans (be_aload_n bd_92_0 rfl) ?_
  refine Eq.trans (be_iload_n bd_92_1 rfl) ?_
  refine Eq.trans (be_virtI (as := [.int a1]) (rr := []) (en := [some (.ref a0), some (.int a1)]) bd_92_2 bm_3_118 rfl rfl rfl ⟨Nat.le_of_ble_eq_true rfl, Nat.le_of_ble_eq_true rfl, Nat.le_of_ble_eq_true rfl, Nat.le_of_ble_eq_true rfl⟩ (Or.inr rfl)) ?_
  refine bn_gd_c (bn_cI_c fun x2 h1 => ?_)
  refine Eq.trans (be_if_ne (t := 10) bd_92_5 rfl) ?_
  refine bn_if_c ?_ ?_
  · refine Eq.trans (be_iconst (v := (-1)) bd_92_8 (by decide)) ?_
    exact be_ireturn bd_92_9 rfl
  · refine Eq.trans (be_iload_n bd_92_10 rfl) ?_
    refine bn_sw (x := a2) (v := 0) (fun he => ?_) (fun hn0 => ?_)
    · rw [he]
      refine Eq.trans (be_tabin (off := 33) (t := 44) bd_92_11 (by decide) rfl rfl) ?_
      rfl
    refine bn_sw (x := a2) (v := 1) (fun he => ?_) (fun hn1 => ?_)
    · rw [he]
      refine Eq.trans (be_tabin (off := 33) (t := 44) bd_92_11 (by decide) rfl rfl) ?_
      rfl
    refine bn_sw (x := a2) (v := 2) (fun he => ?_) (fun hn2 => ?_)
    · rw [he]
      refine Eq.trans (be_tabin (off := 33) (t := 44) bd_92_11 (by decide) rfl rfl) ?_
      rfl
    refine bn_sw (x := a2) (v := 3) (fun he => ?_) (fun hn3 => ?_)
    · rw [he]
      refine Eq.trans (be_tabin (off := 44) (t := 55) bd_92_11 (by decide) rfl rfl) ?_
      refine Eq.trans (be_aload_n bd_92_55 rfl) ?_
      refine Eq.trans (be_iload_n bd_92_56 rfl) ?_
      refine Eq.trans (be_virtI (as := [.int a1]) (rr := []) (en := [some (.ref a0), some (.int a1), none, none]) bd_92_57 bm_3_122 rfl rfl rfl ⟨Nat.le_of_ble_eq_true rfl, Nat.le_of_ble_eq_true rfl, Nat.le_of_ble_eq_true rfl, Nat.le_of_ble_eq_true rfl⟩ (Or.inl rfl)) ?_
      refine bn_gd_c (bn_cI_c fun x4 h3 => ?_)
      exact be_ireturn bd_92_60 rfl
    refine bn_sw (x := a2) (v := 4) (fun he => ?_) (fun hn4 => ?_)
    · rw [he]
      refine Eq.trans (be_tabin (off := 50) (t := 61) bd_92_11 (by decide) rfl rfl) ?_
      refine Eq.trans (be_aload_n bd_92_61 rfl) ?_
      refine Eq.trans (be_getR bd_92_62 bf_3_13 rfl (Or.inl ⟨_, rfl⟩)) ?_
      refine bn_gR_c fun p5 => ?_
      refine Eq.trans (be_iconst (v := 4) bd_92_65 (by decide)) ?_
      refine Eq.trans (be_iload_n bd_92_66 rfl) ?_
      refine Eq.trans (be_imul bd_92_67) ?_
      refine Eq.trans (be_iconst (v := 3) bd_92_68 (by decide)) ?_
      refine Eq.trans (be_iadd bd_92_69) ?_
      refine Eq.trans (be_iaload bd_92_70) ?_
      refine bn_bd_c fun x6 => ?_
      exact be_ireturn bd_92_71 rfl
    have q0 : (a2).toInt ≠ 0 := fun q => hn0 (Int32.toInt_inj.mp (q.trans (by decide)))
    have q1 : (a2).toInt ≠ 1 := fun q => hn1 (Int32.toInt_inj.mp (q.trans (by decide)))
    have q2 : (a2).toInt ≠ 2 := fun q => hn2 (Int32.toInt_inj.mp (q.trans (by decide)))
    have q3 : (a2).toInt ≠ 3 := fun q => hn3 (Int32.toInt_inj.mp (q.trans (by decide)))
    have q4 : (a2).toInt ≠ 4 := fun q => hn4 (Int32.toInt_inj.mp (q.trans (by decide)))
    refine Eq.trans (be_tabout (t := 72) bd_92_11 (by omega) rfl) ?_
    refine Eq.trans (be_bipush (v := (-2)) bd_92_72 (by decide)) ?_
    exact be_ireturn bd_92_74 rfl
theorem bs_X3_person_44 (a0 : Nat) (a1 : Int32) (a2 : Int32) (h : bn_H) : bn_ev 92 44 [some (.ref a0), some (.int a1), some (.int a2)] [] h = bn_gR h a0 3 6 (fun p1 => (bn_ld h p1 0 ((4 * a1) + a2)).bind (fun x2 => some (some (.int x2), h))) := by
  refine Eq.trans (be_aload_n bd_92_44 rfl) ?_
  refine Eq.trans (be_getR bd_92_45 bf_3_13 rfl (Or.inl ⟨_, rfl⟩)) ?_
  refine bn_gR_c fun p1 => ?_
  refine Eq.trans (be_iconst (v := 4) bd_92_48 (by decide)) ?_
  refine Eq.trans (be_iload_n bd_92_49 rfl) ?_
  refine Eq.trans (be_imul bd_92_50) ?_
  refine Eq.trans (be_iload_n bd_92_51 rfl) ?_
  refine Eq.trans (be_iadd bd_92_52) ?_
  refine Eq.trans (be_iaload bd_92_53) ?_
  refine bn_bd_c fun x2 => ?_
  exact be_ireturn bd_92_54 rfl
theorem bs_X3_loaf_0 (a0 : Nat) (a1 : Int32) (a2 : Int32) (h : bn_H) : bn_ev 93 0 [some (.ref a0), some (.int a1), some (.int a2)] [] h = bn_gd (bn_isC h a0 3) (bn_cI (bn_ev 87 0 [some (.ref a0), some (.int a1)] [] h) (fun x2 h1 => if x2 = 0 then (some (some (.int (-1)), h1)) else (if a2 = 0 then (bn_ev 93 48 [some (.ref a0), some (.int a1), some (.int a2)] [] h1) else (if a2 = 1 then (bn_ev 93 48 [some (.ref a0), some (.int a1), some (.int a2)] [] h1) else (if a2 = 2 then (bn_ev 93 48 [some (.ref a0), some (.int a1), some (.int a2)] [] h1) else (if a2 = 3 then (bn_gd (bn_isC h1 a0 3) (bn_cI (bn_ev 90 0 [some (.ref a0), some (.int a1)] [] h1) (fun x4 h3 => some (some (.int (if x4 = 0 then 0 else 1)), h3)))) else (if a2 = 4 then (bn_ev 93 76 [some (.ref a0), some (.int a1), some (.int a2)] [] h1) else (if a2 = 5 then (bn_ev 93 76 [some (.ref a0), some (.int a1), some (.int a2)] [] h1) else (some (some (.int (-2)), h1)))))))))) := by
  refine Eq.trans (be_aload_n bd_93_0 rfl) ?_
  refine Eq.trans (be_iload_n bd_93_1 rfl) ?_
  refine Eq.trans (be_virtI (as := [.int a1]) (rr := []) (en := [some (.ref a0), some (.int a1)]) bd_93_2 bm_3_125 rfl rfl rfl ⟨Nat.le_of_ble_eq_true rfl, Nat.le_of_ble_eq_true rfl, Nat.le_of_ble_eq_true rfl, Nat.le_of_ble_eq_true rfl⟩ (Or.inr rfl)) ?_
  refine bn_gd_c (bn_cI_c fun x2 h1 => ?_)
  refine Eq.trans (be_if_ne (t := 10) bd_93_5 rfl) ?_
  refine bn_if_c ?_ ?_
  · refine Eq.trans (be_iconst (v := (-1)) bd_93_8 (by decide)) ?_
    exact be_ireturn bd_93_9 rfl
  · refine Eq.trans (be_iload_n bd_93_10 rfl) ?_
    refine bn_sw (x := a2) (v := 0) (fun he => ?_) (fun hn0 => ?_)
    · rw [he]
      refine Eq.trans (be_tabin (off := 37) (t := 48) bd_93_11 (by decide) rfl rfl) ?_
      rfl
    refine bn_sw (x := a2) (v := 1) (fun he => ?_) (fun hn1 => ?_)
    · rw [he]
      refine Eq.trans (be_tabin (off := 37) (t := 48) bd_93_11 (by decide) rfl rfl) ?_
      rfl
    refine bn_sw (x := a2) (v := 2) (fun he => ?_) (fun hn2 => ?_)
    · rw [he]
      refine Eq.trans (be_tabin (off := 37) (t := 48) bd_93_11 (by decide) rfl rfl) ?_
      rfl
    refine bn_sw (x := a2) (v := 3) (fun he => ?_) (fun hn3 => ?_)
    · rw [he]
      refine Eq.trans (be_tabin (off := 51) (t := 62) bd_93_11 (by decide) rfl rfl) ?_
      refine Eq.trans (be_aload_n bd_93_62 rfl) ?_
      refine Eq.trans (be_iload_n bd_93_63 rfl) ?_
      refine Eq.trans (be_virtI (as := [.int a1]) (rr := []) (en := [some (.ref a0), some (.int a1)]) bd_93_64 bm_3_128 rfl rfl rfl ⟨Nat.le_of_ble_eq_true rfl, Nat.le_of_ble_eq_true rfl, Nat.le_of_ble_eq_true rfl, Nat.le_of_ble_eq_true rfl⟩ (Or.inr rfl)) ?_
      refine bn_gd_c (bn_cI_c fun x4 h3 => ?_)
      refine Eq.trans (be_if_eq (t := 74) bd_93_67 rfl) ?_
      refine Eq.trans (bn_dia (J := 75) (a := 0) (b := 1) (by
      refine Eq.trans (be_iconst (v := 0) bd_93_74 (by decide)) ?_
      rfl) (by
      refine Eq.trans (be_iconst (v := 1) bd_93_70 (by decide)) ?_
      refine Eq.trans (be_goto (t := 75) bd_93_71 rfl) ?_
      rfl)) ?_
      exact be_ireturn bd_93_75 rfl
    refine bn_sw (x := a2) (v := 4) (fun he => ?_) (fun hn4 => ?_)
    · rw [he]
      refine Eq.trans (be_tabin (off := 65) (t := 76) bd_93_11 (by decide) rfl rfl) ?_
      rfl
    refine bn_sw (x := a2) (v := 5) (fun he => ?_) (fun hn5 => ?_)
    · rw [he]
      refine Eq.trans (be_tabin (off := 65) (t := 76) bd_93_11 (by decide) rfl rfl) ?_
      rfl
    have q0 : (a2).toInt ≠ 0 := fun q => hn0 (Int32.toInt_inj.mp (q.trans (by decide)))
    have q1 : (a2).toInt ≠ 1 := fun q => hn1 (Int32.toInt_inj.mp (q.trans (by decide)))
    have q2 : (a2).toInt ≠ 2 := fun q => hn2 (Int32.toInt_inj.mp (q.trans (by decide)))
    have q3 : (a2).toInt ≠ 3 := fun q => hn3 (Int32.toInt_inj.mp (q.trans (by decide)))
    have q4 : (a2).toInt ≠ 4 := fun q => hn4 (Int32.toInt_inj.mp (q.trans (by decide)))
    have q5 : (a2).toInt ≠ 5 := fun q => hn5 (Int32.toInt_inj.mp (q.trans (by decide)))
    refine Eq.trans (be_tabout (t := 90) bd_93_11 (by omega) rfl) ?_
    refine Eq.trans (be_bipush (v := (-2)) bd_93_90 (by decide)) ?_
    exact be_ireturn bd_93_92 rfl
theorem bs_X3_loaf_48 (a0 : Nat) (a1 : Int32) (a2 : Int32) (h : bn_H) : bn_ev 93 48 [some (.ref a0), some (.int a1), some (.int a2)] [] h = bn_gR h a0 3 6 (fun p1 => (bn_ld h p1 0 ((20 + (5 * a1)) + a2)).bind (fun x2 => some (some (.int x2), h))) := by
  refine Eq.trans (be_aload_n bd_93_48 rfl) ?_
  refine Eq.trans (be_getR bd_93_49 bf_3_13 rfl (Or.inl ⟨_, rfl⟩)) ?_
  refine bn_gR_c fun p1 => ?_
  refine Eq.trans (be_bipush (v := 20) bd_93_52 (by decide)) ?_
  refine Eq.trans (be_iconst (v := 5) bd_93_54 (by decide)) ?_
  refine Eq.trans (be_iload_n bd_93_55 rfl) ?_
  refine Eq.trans (be_imul bd_93_56) ?_
  refine Eq.trans (be_iadd bd_93_57) ?_
  refine Eq.trans (be_iload_n bd_93_58 rfl) ?_
  refine Eq.trans (be_iadd bd_93_59) ?_
  refine Eq.trans (be_iaload bd_93_60) ?_
  refine bn_bd_c fun x2 => ?_
  exact be_ireturn bd_93_61 rfl
theorem bs_X3_loaf_76 (a0 : Nat) (a1 : Int32) (a2 : Int32) (h : bn_H) : bn_ev 93 76 [some (.ref a0), some (.int a1), some (.int a2)] [] h = bn_gR h a0 3 6 (fun p1 => (bn_ld h p1 0 ((19 + (5 * a1)) + a2)).bind (fun x2 => some (some (.int x2), h))) := by
  refine Eq.trans (be_aload_n bd_93_76 rfl) ?_
  refine Eq.trans (be_getR bd_93_77 bf_3_13 rfl (Or.inl ⟨_, rfl⟩)) ?_
  refine bn_gR_c fun p1 => ?_
  refine Eq.trans (be_bipush (v := 19) bd_93_80 (by decide)) ?_
  refine Eq.trans (be_iconst (v := 5) bd_93_82 (by decide)) ?_
  refine Eq.trans (be_iload_n bd_93_83 rfl) ?_
  refine Eq.trans (be_imul bd_93_84) ?_
  refine Eq.trans (be_iadd bd_93_85) ?_
  refine Eq.trans (be_iload_n bd_93_86 rfl) ?_
  refine Eq.trans (be_iadd bd_93_87) ?_
  refine Eq.trans (be_iaload bd_93_88) ?_
  refine bn_bd_c fun x2 => ?_
  exact be_ireturn bd_93_89 rfl
theorem bs_X3_keepAct_0 (a0 : Nat) (h : bn_H) : bn_ev 94 0 [some (.ref a0), none] [] h = bn_ev 94 2 [some (.ref a0), some (.int 0)] [] h := by
  refine Eq.trans (be_iconst (v := 0) bd_94_0 (by decide)) ?_
  refine Eq.trans (be_istore_n (ls' := [some (.ref a0), some (.int 0)]) bd_94_1 (Nat.le_of_ble_eq_true rfl) rfl) ?_
  rfl
theorem bs_X3_keepAct_2 (a0 : Nat) (a1 : Int32) (h : bn_H) : bn_ev 94 2 [some (.ref a0), some (.int a1)] [] h = if 71 ≤ a1 then (bn_gR h a0 3 20 (fun p1 => bn_gI h a0 3 18 (fun x2 => bn_gJ h a0 3 12 (fun y3 => (bn_lsd h p1 x2 y3).bind (fun h4 => bn_gI h4 a0 3 18 (fun x5 => (bn_pf h4 a0 3 18 (.int (bn_rem (x5 + 1) 20))).bind (fun h6 => bn_gI h6 a0 3 17 (fun x7 => if 20 ≤ x7 then ((bn_pf h6 a0 3 17 (.int 20)).bind (fun h8 => some (none, h8))) else (bn_gI h6 a0 3 17 (fun x9 => (bn_pf h6 a0 3 17 (.int (x9 + 1))).bind (fun h10 => some (none, h10)))))))))))) else (bn_gR h a0 3 19 (fun p11 => bn_gI h a0 3 18 (fun x12 => bn_gR h a0 3 6 (fun p13 => (bn_ld h p13 0 a1).bind (fun x14 => (bn_sd h p11 0 ((72 * x12) + a1) x14).bind (fun h15 => bn_ev 94 2 [some (.ref a0), some (.int (a1 + 1))] [] h15)))))) := by
  refine Eq.trans (be_iload_n bd_94_2 rfl) ?_
  refine Eq.trans (be_bipush (v := 71) bd_94_3 (by decide)) ?_
  refine Eq.trans (be_icmp_ge (t := 34) bd_94_5 rfl) ?_
  refine bn_if_c ?_ ?_
  · refine Eq.trans (be_aload_n bd_94_34 rfl) ?_
    refine Eq.trans (be_getR bd_94_35 bf_3_22 rfl (Or.inl ⟨_, rfl⟩)) ?_
    refine bn_gR_c fun p1 => ?_
    refine Eq.trans (be_aload_n bd_94_38 rfl) ?_
    refine Eq.trans (be_getI bd_94_39 bf_3_131 rfl) ?_
    refine bn_gI_c fun x2 => ?_
    refine Eq.trans (be_aload_n bd_94_42 rfl) ?_
    refine Eq.trans (be_getJ bd_94_43 bf_3_134 rfl) ?_
    refine bn_gJ_c fun y3 => ?_
    refine Eq.trans (be_lastore bd_94_46) ?_
    refine bn_bd_c fun h4 => ?_
    refine Eq.trans (be_aload_n bd_94_47 rfl) ?_
    refine Eq.trans (be_aload_n bd_94_48 rfl) ?_
    refine Eq.trans (be_getI bd_94_49 bf_3_131 rfl) ?_
    refine bn_gI_c fun x5 => ?_
    refine Eq.trans (be_iconst (v := 1) bd_94_52 (by decide)) ?_
    refine Eq.trans (be_iadd bd_94_53) ?_
    refine Eq.trans (be_bipush (v := 20) bd_94_54 (by decide)) ?_
    refine Eq.trans (be_irem_c bd_94_56 (by decide)) ?_
    refine Eq.trans (be_putI bd_94_57 bf_3_131 rfl rfl) ?_
    refine bn_bd_c fun h6 => ?_
    refine Eq.trans (be_aload_n bd_94_60 rfl) ?_
    refine Eq.trans (be_aload_n bd_94_61 rfl) ?_
    refine Eq.trans (be_getI bd_94_62 bf_3_112 rfl) ?_
    refine bn_gI_c fun x7 => ?_
    refine Eq.trans (be_bipush (v := 20) bd_94_65 (by decide)) ?_
    refine Eq.trans (be_icmp_ge (t := 79) bd_94_67 rfl) ?_
    refine bn_if_c ?_ ?_
    · refine Eq.trans (be_bipush (v := 20) bd_94_79 (by decide)) ?_
      refine Eq.trans (be_putI bd_94_81 bf_3_112 rfl rfl) ?_
      refine bn_bd_c fun h8 => ?_
      exact be_return bd_94_84 rfl
    · refine Eq.trans (be_aload_n bd_94_70 rfl) ?_
      refine Eq.trans (be_getI bd_94_71 bf_3_112 rfl) ?_
      refine bn_gI_c fun x9 => ?_
      refine Eq.trans (be_iconst (v := 1) bd_94_74 (by decide)) ?_
      refine Eq.trans (be_iadd bd_94_75) ?_
      refine Eq.trans (be_goto (t := 81) bd_94_76 rfl) ?_
      refine Eq.trans (be_putI bd_94_81 bf_3_112 rfl rfl) ?_
      refine bn_bd_c fun h10 => ?_
      exact be_return bd_94_84 rfl
  · refine Eq.trans (be_aload_n bd_94_8 rfl) ?_
    refine Eq.trans (be_getR bd_94_9 bf_3_19 rfl (Or.inl ⟨_, rfl⟩)) ?_
    refine bn_gR_c fun p11 => ?_
    refine Eq.trans (be_bipush (v := 72) bd_94_12 (by decide)) ?_
    refine Eq.trans (be_aload_n bd_94_14 rfl) ?_
    refine Eq.trans (be_getI bd_94_15 bf_3_131 rfl) ?_
    refine bn_gI_c fun x12 => ?_
    refine Eq.trans (be_imul bd_94_18) ?_
    refine Eq.trans (be_iload_n bd_94_19 rfl) ?_
    refine Eq.trans (be_iadd bd_94_20) ?_
    refine Eq.trans (be_aload_n bd_94_21 rfl) ?_
    refine Eq.trans (be_getR bd_94_22 bf_3_13 rfl (Or.inl ⟨_, rfl⟩)) ?_
    refine bn_gR_c fun p13 => ?_
    refine Eq.trans (be_iload_n bd_94_25 rfl) ?_
    refine Eq.trans (be_iaload bd_94_26) ?_
    refine bn_bd_c fun x14 => ?_
    refine Eq.trans (be_iastore bd_94_27) ?_
    refine bn_bd_c fun h15 => ?_
    refine Eq.trans (be_iinc (v := 1) (ls' := [some (.ref a0), some (.int (a1 + 1))]) bd_94_28 rfl (by decide) (Nat.le_of_ble_eq_true rfl) rfl) ?_
    refine Eq.trans (be_goto (t := 2) bd_94_31 rfl) ?_
    rfl
theorem bs_X3_mayEat_0 (a0 : Nat) (a1 : Int32) (a2 : Int32) (h : bn_H) : bn_ev 95 0 [some (.ref a0), some (.int a1), some (.int a2), none, none, none] [] h = bn_gd (bn_isC h a0 3) (bn_cI (bn_ev 89 0 [some (.ref a0), some (.int a2)] [] h) (fun x2 h1 => if x2 = a1 then (bn_gd (bn_isC h1 a0 3) (bn_cI (bn_ev 90 0 [some (.ref a0), some (.int a2)] [] h1) (fun x4 h3 => if x4 = 0 then (bn_gR h3 a0 3 6 (fun p5 => (bn_ld h3 p5 0 ((4 * a1) + 1)).bind (fun x6 => if x6 = 0 then (some (some (.int 0), h3)) else (bn_gR h3 a0 3 6 (fun p7 => (bn_ld h3 p7 0 ((4 * a1) + 2)).bind (fun x8 => if x8 = 1 then (some (some (.int 0), h3)) else (bn_ev 95 51 [some (.ref a0), some (.int a1), some (.int a2), some (.int 1), some (.int 0), none] [] h3))))))) else (some (some (.int 0), h3))))) else (some (some (.int 0), h1)))) := by
  refine Eq.trans (be_aload_n bd_95_0 rfl) ?_
  refine Eq.trans (be_iload_n bd_95_1 rfl) ?_
  refine Eq.trans (be_virtI (as := [.int a2]) (rr := []) (en := [some (.ref a0), some (.int a2)]) bd_95_2 bm_3_115 rfl rfl rfl ⟨Nat.le_of_ble_eq_true rfl, Nat.le_of_ble_eq_true rfl, Nat.le_of_ble_eq_true rfl, Nat.le_of_ble_eq_true rfl⟩ (Or.inl rfl)) ?_
  refine bn_gd_c (bn_cI_c fun x2 h1 => ?_)
  refine Eq.trans (be_iload_n bd_95_5 rfl) ?_
  refine Eq.trans (be_icmp_ne (t := 44) bd_95_6 rfl) ?_
  refine bn_if_c ?_ ?_
  · refine Eq.trans (be_aload_n bd_95_9 rfl) ?_
    refine Eq.trans (be_iload_n bd_95_10 rfl) ?_
    refine Eq.trans (be_virtI (as := [.int a2]) (rr := []) (en := [some (.ref a0), some (.int a2)]) bd_95_11 bm_3_128 rfl rfl rfl ⟨Nat.le_of_ble_eq_true rfl, Nat.le_of_ble_eq_true rfl, Nat.le_of_ble_eq_true rfl, Nat.le_of_ble_eq_true rfl⟩ (Or.inr rfl)) ?_
    refine bn_gd_c (bn_cI_c fun x4 h3 => ?_)
    refine Eq.trans (be_if_ne (t := 44) bd_95_14 rfl) ?_
    refine bn_if_c ?_ ?_
    · refine Eq.trans (be_aload_n bd_95_17 rfl) ?_
      refine Eq.trans (be_getR bd_95_18 bf_3_13 rfl (Or.inl ⟨_, rfl⟩)) ?_
      refine bn_gR_c fun p5 => ?_
      refine Eq.trans (be_iconst (v := 4) bd_95_21 (by decide)) ?_
      refine Eq.trans (be_iload_n bd_95_22 rfl) ?_
      refine Eq.trans (be_imul bd_95_23) ?_
      refine Eq.trans (be_iconst (v := 1) bd_95_24 (by decide)) ?_
      refine Eq.trans (be_iadd bd_95_25) ?_
      refine Eq.trans (be_iaload bd_95_26) ?_
      refine bn_bd_c fun x6 => ?_
      refine Eq.trans (be_if_eq (t := 44) bd_95_27 rfl) ?_
      refine bn_if_c ?_ ?_
      · refine Eq.trans (be_iconst (v := 0) bd_95_44 (by decide)) ?_
        exact be_z0 bd_95_45 rfl (Or.inl rfl)
      · refine Eq.trans (be_aload_n bd_95_30 rfl) ?_
        refine Eq.trans (be_getR bd_95_31 bf_3_13 rfl (Or.inl ⟨_, rfl⟩)) ?_
        refine bn_gR_c fun p7 => ?_
        refine Eq.trans (be_iconst (v := 4) bd_95_34 (by decide)) ?_
        refine Eq.trans (be_iload_n bd_95_35 rfl) ?_
        refine Eq.trans (be_imul bd_95_36) ?_
        refine Eq.trans (be_iconst (v := 2) bd_95_37 (by decide)) ?_
        refine Eq.trans (be_iadd bd_95_38) ?_
        refine Eq.trans (be_iaload bd_95_39) ?_
        refine bn_bd_c fun x8 => ?_
        refine Eq.trans (be_iconst (v := 1) bd_95_40 (by decide)) ?_
        refine Eq.trans (be_icmp_ne (t := 46) bd_95_41 rfl) ?_
        refine bn_if_c ?_ ?_
        · refine Eq.trans (be_iconst (v := 0) bd_95_44 (by decide)) ?_
          exact be_z0 bd_95_45 rfl (Or.inl rfl)
        · refine Eq.trans (be_iconst (v := 1) bd_95_46 (by decide)) ?_
          refine Eq.trans (be_istore_n (ls' := [some (.ref a0), some (.int a1), some (.int a2), some (.int 1), none, none]) bd_95_47 (Nat.le_of_ble_eq_true rfl) rfl) ?_
          refine Eq.trans (be_iconst (v := 0) bd_95_48 (by decide)) ?_
          refine Eq.trans (be_istore (ls' := [some (.ref a0), some (.int a1), some (.int a2), some (.int 1), some (.int 0), none]) bd_95_49 (Nat.le_of_ble_eq_true rfl) rfl) ?_
          rfl
    · refine Eq.trans (be_iconst (v := 0) bd_95_44 (by decide)) ?_
      exact be_z0 bd_95_45 rfl (Or.inl rfl)
  · refine Eq.trans (be_iconst (v := 0) bd_95_44 (by decide)) ?_
    exact be_z0 bd_95_45 rfl (Or.inl rfl)
theorem bs_X3_mayEat_51 (a0 : Nat) (a1 : Int32) (a2 : Int32) (a3 : Int32) (a4 : Int32) (o5 : Option Value) (h : bn_H) : bn_ev 95 51 [some (.ref a0), some (.int a1), some (.int a2), some (.int a3), some (.int a4), o5] [] h = bn_gI h a0 3 11 (fun x1 => if x1 ≤ a4 then (if a3 = 0 ∨ a3 = 1 then some (some (.int a3), h) else none) else (bn_gI h a0 3 7 (fun x2 => if 2 ≤ x2 then (if a3 = 0 ∨ a3 = 1 then some (some (.int a3), h) else none) else (bn_gI h a0 3 7 (fun x3 => if x3 = 0 then (bn_gd (bn_isC h a0 3) (bn_cI (bn_ev 89 0 [some (.ref a0), some (.int a4)] [] h) (fun x5 h4 => bn_ev 95 109 [some (.ref a0), some (.int a1), some (.int a2), some (.int a3), some (.int a4), o5] [.int (if x5 = a1 then 1 else 0)] h4))) else (bn_gd (bn_isC h a0 3) (bn_cI (bn_ev 89 0 [some (.ref a0), some (.int a4)] [] h) (fun x7 h6 => bn_ev 95 109 [some (.ref a0), some (.int a1), some (.int a2), some (.int a3), some (.int a4), o5] [.int (if 10 ≤ x7 then 0 else 1)] h6)))))))) := by
  refine Eq.trans (be_iload bd_95_51 rfl) ?_
  refine Eq.trans (be_aload_n bd_95_53 rfl) ?_
  refine Eq.trans (be_getI bd_95_54 bf_3_109 rfl) ?_
  refine bn_gI_c fun x1 => ?_
  refine Eq.trans (be_icmp_ge (t := 155) bd_95_57 rfl) ?_
  refine bn_if_c ?_ ?_
  · refine Eq.trans (be_iload_n bd_95_155 rfl) ?_
    exact be_zreturn bd_95_156 rfl
  · refine Eq.trans (be_aload_n bd_95_60 rfl) ?_
    refine Eq.trans (be_getI bd_95_61 bf_3_103 rfl) ?_
    refine bn_gI_c fun x2 => ?_
    refine Eq.trans (be_iconst (v := 2) bd_95_64 (by decide)) ?_
    refine Eq.trans (be_icmp_ge (t := 155) bd_95_65 rfl) ?_
    refine bn_if_c ?_ ?_
    · refine Eq.trans (be_iload_n bd_95_155 rfl) ?_
      exact be_zreturn bd_95_156 rfl
    · refine Eq.trans (be_aload_n bd_95_68 rfl) ?_
      refine Eq.trans (be_getI bd_95_69 bf_3_103 rfl) ?_
      refine bn_gI_c fun x3 => ?_
      refine Eq.trans (be_if_ne (t := 93) bd_95_72 rfl) ?_
      refine bn_if_c ?_ ?_
      · refine Eq.trans (be_aload_n bd_95_75 rfl) ?_
        refine Eq.trans (be_iload bd_95_76 rfl) ?_
        refine Eq.trans (be_virtI (as := [.int a4]) (rr := []) (en := [some (.ref a0), some (.int a4)]) bd_95_78 bm_3_115 rfl rfl rfl ⟨Nat.le_of_ble_eq_true rfl, Nat.le_of_ble_eq_true rfl, Nat.le_of_ble_eq_true rfl, Nat.le_of_ble_eq_true rfl⟩ (Or.inl rfl)) ?_
        refine bn_gd_c (bn_cI_c fun x5 h4 => ?_)
        refine Eq.trans (be_iload_n bd_95_81 rfl) ?_
        refine Eq.trans (be_icmp_ne (t := 89) bd_95_82 rfl) ?_
        refine Eq.trans (bn_dia (J := 109) (a := 1) (b := 0) (by
      refine Eq.trans (be_iconst (v := 1) bd_95_85 (by decide)) ?_
      refine Eq.trans (be_goto (t := 109) bd_95_86 rfl) ?_
      rfl) (by
      refine Eq.trans (be_iconst (v := 0) bd_95_89 (by decide)) ?_
      refine Eq.trans (be_goto (t := 109) bd_95_90 rfl) ?_
      rfl)) ?_
        rfl
      · refine Eq.trans (be_aload_n bd_95_93 rfl) ?_
        refine Eq.trans (be_iload bd_95_94 rfl) ?_
        refine Eq.trans (be_virtI (as := [.int a4]) (rr := []) (en := [some (.ref a0), some (.int a4)]) bd_95_96 bm_3_115 rfl rfl rfl ⟨Nat.le_of_ble_eq_true rfl, Nat.le_of_ble_eq_true rfl, Nat.le_of_ble_eq_true rfl, Nat.le_of_ble_eq_true rfl⟩ (Or.inl rfl)) ?_
        refine bn_gd_c (bn_cI_c fun x7 h6 => ?_)
        refine Eq.trans (be_bipush (v := 10) bd_95_99 (by decide)) ?_
        refine Eq.trans (be_icmp_ge (t := 108) bd_95_101 rfl) ?_
        refine Eq.trans (bn_dia (J := 109) (a := 0) (b := 1) (by
      refine Eq.trans (be_iconst (v := 0) bd_95_108 (by decide)) ?_
      rfl) (by
      refine Eq.trans (be_iconst (v := 1) bd_95_104 (by decide)) ?_
      refine Eq.trans (be_goto (t := 109) bd_95_105 rfl) ?_
      rfl)) ?_
        rfl
theorem bs_X3_mayEat_109 (a0 : Nat) (a1 : Int32) (a2 : Int32) (a3 : Int32) (a4 : Int32) (o5 : Option Value) (s0 : Int32) (h : bn_H) : bn_ev 95 109 [some (.ref a0), some (.int a1), some (.int a2), some (.int a3), some (.int a4), o5] [.int s0] h = if a3 = 0 then (bn_ev 95 51 [some (.ref a0), some (.int a1), some (.int a2), some (.int 0), some (.int (a4 + 1)), some (.int s0)] [] h) else (if s0 = 0 then (bn_ev 95 51 [some (.ref a0), some (.int a1), some (.int a2), some (.int 1), some (.int (a4 + 1)), some (.int s0)] [] h) else (bn_gd (bn_isC h a0 3) (bn_cI (bn_ev 90 0 [some (.ref a0), some (.int a4)] [] h) (fun x2 h1 => if x2 = 0 then (bn_gd (bn_isC h1 a0 3) (bn_cI (bn_ev 88 0 [some (.ref a0), some (.int a4)] [] h1) (fun x4 h3 => bn_gd (bn_isC h3 a0 3) (bn_cI (bn_ev 88 0 [some (.ref a0), some (.int a2)] [] h3) (fun x6 h5 => if x4 < x6 then (bn_ev 95 51 [some (.ref a0), some (.int a1), some (.int a2), some (.int 0), some (.int (a4 + 1)), some (.int s0)] [] h5) else (bn_ev 95 51 [some (.ref a0), some (.int a1), some (.int a2), some (.int 1), some (.int (a4 + 1)), some (.int s0)] [] h5)))))) else (bn_ev 95 51 [some (.ref a0), some (.int a1), some (.int a2), some (.int 1), some (.int (a4 + 1)), some (.int s0)] [] h1))))) := by
  refine Eq.trans (be_istore (ls' := [some (.ref a0), some (.int a1), some (.int a2), some (.int a3), some (.int a4), some (.int s0)]) bd_95_109 (Nat.le_of_ble_eq_true rfl) rfl) ?_
  refine Eq.trans (be_iload_n bd_95_111 rfl) ?_
  refine Eq.trans (be_if_eq (t := 147) bd_95_112 rfl) ?_
  refine bn_if_c ?_ ?_
  · refine Eq.trans (be_iconst (v := 0) bd_95_147 (by decide)) ?_
    refine Eq.trans (be_istore_n (ls' := [some (.ref a0), some (.int a1), some (.int a2), some (.int 0), some (.int a4), some (.int s0)]) bd_95_148 (Nat.le_of_ble_eq_true rfl) rfl) ?_
    refine Eq.trans (be_iinc (v := 1) (ls' := [some (.ref a0), some (.int a1), some (.int a2), some (.int 0), some (.int (a4 + 1)), some (.int s0)]) bd_95_149 rfl (by decide) (Nat.le_of_ble_eq_true rfl) rfl) ?_
    refine Eq.trans (be_goto (t := 51) bd_95_152 rfl) ?_
    rfl
  · refine Eq.trans (be_iload bd_95_115 rfl) ?_
    refine Eq.trans (be_if_eq (t := 143) bd_95_117 rfl) ?_
    refine bn_if_c ?_ ?_
    · refine Eq.trans (be_iconst (v := 1) bd_95_143 (by decide)) ?_
      refine Eq.trans (be_goto (t := 148) bd_95_144 rfl) ?_
      refine Eq.trans (be_istore_n (ls' := [some (.ref a0), some (.int a1), some (.int a2), some (.int 1), some (.int a4), some (.int s0)]) bd_95_148 (Nat.le_of_ble_eq_true rfl) rfl) ?_
      refine Eq.trans (be_iinc (v := 1) (ls' := [some (.ref a0), some (.int a1), some (.int a2), some (.int 1), some (.int (a4 + 1)), some (.int s0)]) bd_95_149 rfl (by decide) (Nat.le_of_ble_eq_true rfl) rfl) ?_
      refine Eq.trans (be_goto (t := 51) bd_95_152 rfl) ?_
      rfl
    · refine Eq.trans (be_aload_n bd_95_120 rfl) ?_
      refine Eq.trans (be_iload bd_95_121 rfl) ?_
      refine Eq.trans (be_virtI (as := [.int a4]) (rr := []) (en := [some (.ref a0), some (.int a4)]) bd_95_123 bm_3_128 rfl rfl rfl ⟨Nat.le_of_ble_eq_true rfl, Nat.le_of_ble_eq_true rfl, Nat.le_of_ble_eq_true rfl, Nat.le_of_ble_eq_true rfl⟩ (Or.inr rfl)) ?_
      refine bn_gd_c (bn_cI_c fun x2 h1 => ?_)
      refine Eq.trans (be_if_ne (t := 143) bd_95_126 rfl) ?_
      refine bn_if_c ?_ ?_
      · refine Eq.trans (be_aload_n bd_95_129 rfl) ?_
        refine Eq.trans (be_iload bd_95_130 rfl) ?_
        refine Eq.trans (be_virtI (as := [.int a4]) (rr := []) (en := [some (.ref a0), some (.int a4)]) bd_95_132 bm_3_138 rfl rfl rfl ⟨Nat.le_of_ble_eq_true rfl, Nat.le_of_ble_eq_true rfl, Nat.le_of_ble_eq_true rfl, Nat.le_of_ble_eq_true rfl⟩ (Or.inl rfl)) ?_
        refine bn_gd_c (bn_cI_c fun x4 h3 => ?_)
        refine Eq.trans (be_aload_n bd_95_135 rfl) ?_
        refine Eq.trans (be_iload_n bd_95_136 rfl) ?_
        refine Eq.trans (be_virtI (as := [.int a2]) (rr := [.int x4]) (en := [some (.ref a0), some (.int a2)]) bd_95_137 bm_3_138 rfl rfl rfl ⟨Nat.le_of_ble_eq_true rfl, Nat.le_of_ble_eq_true rfl, Nat.le_of_ble_eq_true rfl, Nat.le_of_ble_eq_true rfl⟩ (Or.inl rfl)) ?_
        refine bn_gd_c (bn_cI_c fun x6 h5 => ?_)
        refine Eq.trans (be_icmp_lt (t := 147) bd_95_140 rfl) ?_
        refine bn_if_c ?_ ?_
        · refine Eq.trans (be_iconst (v := 0) bd_95_147 (by decide)) ?_
          refine Eq.trans (be_istore_n (ls' := [some (.ref a0), some (.int a1), some (.int a2), some (.int 0), some (.int a4), some (.int s0)]) bd_95_148 (Nat.le_of_ble_eq_true rfl) rfl) ?_
          refine Eq.trans (be_iinc (v := 1) (ls' := [some (.ref a0), some (.int a1), some (.int a2), some (.int 0), some (.int (a4 + 1)), some (.int s0)]) bd_95_149 rfl (by decide) (Nat.le_of_ble_eq_true rfl) rfl) ?_
          refine Eq.trans (be_goto (t := 51) bd_95_152 rfl) ?_
          rfl
        · refine Eq.trans (be_iconst (v := 1) bd_95_143 (by decide)) ?_
          refine Eq.trans (be_goto (t := 148) bd_95_144 rfl) ?_
          refine Eq.trans (be_istore_n (ls' := [some (.ref a0), some (.int a1), some (.int a2), some (.int 1), some (.int a4), some (.int s0)]) bd_95_148 (Nat.le_of_ble_eq_true rfl) rfl) ?_
          refine Eq.trans (be_iinc (v := 1) (ls' := [some (.ref a0), some (.int a1), some (.int a2), some (.int 1), some (.int (a4 + 1)), some (.int s0)]) bd_95_149 rfl (by decide) (Nat.le_of_ble_eq_true rfl) rfl) ?_
          refine Eq.trans (be_goto (t := 51) bd_95_152 rfl) ?_
          rfl
      · refine Eq.trans (be_iconst (v := 1) bd_95_143 (by decide)) ?_
        refine Eq.trans (be_goto (t := 148) bd_95_144 rfl) ?_
        refine Eq.trans (be_istore_n (ls' := [some (.ref a0), some (.int a1), some (.int a2), some (.int 1), some (.int a4), some (.int s0)]) bd_95_148 (Nat.le_of_ble_eq_true rfl) rfl) ?_
        refine Eq.trans (be_iinc (v := 1) (ls' := [some (.ref a0), some (.int a1), some (.int a2), some (.int 1), some (.int (a4 + 1)), some (.int s0)]) bd_95_149 rfl (by decide) (Nat.le_of_ble_eq_true rfl) rfl) ?_
        refine Eq.trans (be_goto (t := 51) bd_95_152 rfl) ?_
        rfl
theorem bs_X3_may_0 (a0 : Nat) (a1 : Int32) (a2 : Int32) (h : bn_H) : bn_ev 96 0 [some (.ref a0), some (.int a1), some (.int a2)] [] h = bn_gd (bn_isC h a0 3) (bn_cI (bn_ev 86 0 [some (.ref a0), some (.int a1)] [] h) (fun x2 h1 => if x2 = 0 then (some (some (.int (-1)), h1)) else (bn_gd (bn_isC h1 a0 3) (bn_cI (bn_ev 87 0 [some (.ref a0), some (.int a2)] [] h1) (fun x4 h3 => if x4 = 0 then (some (some (.int (-1)), h3)) else (bn_gd (bn_isC h3 a0 3) (bn_cI (bn_ev 95 0 [some (.ref a0), some (.int a1), some (.int a2), none, none, none] [] h3) (fun x6 h5 => some (some (.int (if x6 = 0 then 0 else 1)), h5))))))))) := by
  refine Eq.trans (be_aload_n bd_96_0 rfl) ?_
  refine Eq.trans (be_iload_n bd_96_1 rfl) ?_
  refine Eq.trans (be_virtI (as := [.int a1]) (rr := []) (en := [some (.ref a0), some (.int a1)]) bd_96_2 bm_3_118 rfl rfl rfl ⟨Nat.le_of_ble_eq_true rfl, Nat.le_of_ble_eq_true rfl, Nat.le_of_ble_eq_true rfl, Nat.le_of_ble_eq_true rfl⟩ (Or.inr rfl)) ?_
  refine bn_gd_c (bn_cI_c fun x2 h1 => ?_)
  refine Eq.trans (be_if_eq (t := 16) bd_96_5 rfl) ?_
  refine bn_if_c ?_ ?_
  · refine Eq.trans (be_iconst (v := (-1)) bd_96_16 (by decide)) ?_
    exact be_ireturn bd_96_17 rfl
  · refine Eq.trans (be_aload_n bd_96_8 rfl) ?_
    refine Eq.trans (be_iload_n bd_96_9 rfl) ?_
    refine Eq.trans (be_virtI (as := [.int a2]) (rr := []) (en := [some (.ref a0), some (.int a2)]) bd_96_10 bm_3_125 rfl rfl rfl ⟨Nat.le_of_ble_eq_true rfl, Nat.le_of_ble_eq_true rfl, Nat.le_of_ble_eq_true rfl, Nat.le_of_ble_eq_true rfl⟩ (Or.inr rfl)) ?_
    refine bn_gd_c (bn_cI_c fun x4 h3 => ?_)
    refine Eq.trans (be_if_ne (t := 18) bd_96_13 rfl) ?_
    refine bn_if_c ?_ ?_
    · refine Eq.trans (be_iconst (v := (-1)) bd_96_16 (by decide)) ?_
      exact be_ireturn bd_96_17 rfl
    · refine Eq.trans (be_aload_n bd_96_18 rfl) ?_
      refine Eq.trans (be_iload_n bd_96_19 rfl) ?_
      refine Eq.trans (be_iload_n bd_96_20 rfl) ?_
      refine Eq.trans (be_virtI (as := [.int a2, .int a1]) (rr := []) (en := [some (.ref a0), some (.int a1), some (.int a2), none, none, none]) bd_96_21 bm_3_141 rfl rfl rfl ⟨Nat.le_of_ble_eq_true rfl, Nat.le_of_ble_eq_true rfl, Nat.le_of_ble_eq_true rfl, Nat.le_of_ble_eq_true rfl⟩ (Or.inr rfl)) ?_
      refine bn_gd_c (bn_cI_c fun x6 h5 => ?_)
      refine Eq.trans (be_if_eq (t := 31) bd_96_24 rfl) ?_
      refine Eq.trans (bn_dia (J := 32) (a := 0) (b := 1) (by
      refine Eq.trans (be_iconst (v := 0) bd_96_31 (by decide)) ?_
      rfl) (by
      refine Eq.trans (be_iconst (v := 1) bd_96_27 (by decide)) ?_
      refine Eq.trans (be_goto (t := 32) bd_96_28 rfl) ?_
      rfl)) ?_
      exact be_ireturn bd_96_32 rfl
theorem bs_X3_eaten_0 (a0 : Nat) (a1 : Int32) (a2 : Int32) (h : bn_H) : bn_ev 97 0 [some (.ref a0), some (.int a1), some (.int a2), none] [] h = bn_gR h a0 3 6 (fun p1 => (bn_sd h p1 0 ((20 + (5 * a2)) + 1) 20).bind (fun h2 => bn_gR h2 a0 3 6 (fun p3 => (bn_sd h2 p3 0 ((20 + (5 * a2)) + 3) a1).bind (fun h4 => bn_gR h4 a0 3 6 (fun p5 => bn_gR h4 a0 3 6 (fun p6 => (bn_ld h4 p6 0 70).bind (fun x7 => (bn_sd h4 p5 0 ((20 + (5 * a2)) + 4) x7).bind (fun h8 => bn_gR h8 a0 3 6 (fun p9 => (bn_sd h8 p9 0 (4 * a1) 0).bind (fun h10 => bn_gR h10 a0 3 6 (fun p11 => (bn_sd h10 p11 0 ((4 * a1) + 2) 1).bind (fun h12 => bn_gR h12 a0 3 6 (fun p13 => (bn_ld h12 p13 0 ((4 * a1) + 3)).bind (fun x14 => (bn_sd h12 p13 0 ((4 * a1) + 3) (x14 + 1)).bind (fun h15 => some (none, h15)))))))))))))))) := by
  refine Eq.trans (be_bipush (v := 20) bd_97_0 (by decide)) ?_
  refine Eq.trans (be_iconst (v := 5) bd_97_2 (by decide)) ?_
  refine Eq.trans (be_iload_n bd_97_3 rfl) ?_
  refine Eq.trans (be_imul bd_97_4) ?_
  refine Eq.trans (be_iadd bd_97_5) ?_
  refine Eq.trans (be_istore_n (ls' := [some (.ref a0), some (.int a1), some (.int a2), some (.int (20 + (5 * a2)))]) bd_97_6 (Nat.le_of_ble_eq_true rfl) rfl) ?_
  refine Eq.trans (be_aload_n bd_97_7 rfl) ?_
  refine Eq.trans (be_getR bd_97_8 bf_3_13 rfl (Or.inl ⟨_, rfl⟩)) ?_
  refine bn_gR_c fun p1 => ?_
  refine Eq.trans (be_iload_n bd_97_11 rfl) ?_
  refine Eq.trans (be_iconst (v := 1) bd_97_12 (by decide)) ?_
  refine Eq.trans (be_iadd bd_97_13) ?_
  refine Eq.trans (be_bipush (v := 20) bd_97_14 (by decide)) ?_
  refine Eq.trans (be_iastore bd_97_16) ?_
  refine bn_bd_c fun h2 => ?_
  refine Eq.trans (be_aload_n bd_97_17 rfl) ?_
  refine Eq.trans (be_getR bd_97_18 bf_3_13 rfl (Or.inl ⟨_, rfl⟩)) ?_
  refine bn_gR_c fun p3 => ?_
  refine Eq.trans (be_iload_n bd_97_21 rfl) ?_
  refine Eq.trans (be_iconst (v := 3) bd_97_22 (by decide)) ?_
  refine Eq.trans (be_iadd bd_97_23) ?_
  refine Eq.trans (be_iload_n bd_97_24 rfl) ?_
  refine Eq.trans (be_iastore bd_97_25) ?_
  refine bn_bd_c fun h4 => ?_
  refine Eq.trans (be_aload_n bd_97_26 rfl) ?_
  refine Eq.trans (be_getR bd_97_27 bf_3_13 rfl (Or.inl ⟨_, rfl⟩)) ?_
  refine bn_gR_c fun p5 => ?_
  refine Eq.trans (be_iload_n bd_97_30 rfl) ?_
  refine Eq.trans (be_iconst (v := 4) bd_97_31 (by decide)) ?_
  refine Eq.trans (be_iadd bd_97_32) ?_
  refine Eq.trans (be_aload_n bd_97_33 rfl) ?_
  refine Eq.trans (be_getR bd_97_34 bf_3_13 rfl (Or.inl ⟨_, rfl⟩)) ?_
  refine bn_gR_c fun p6 => ?_
  refine Eq.trans (be_bipush (v := 70) bd_97_37 (by decide)) ?_
  refine Eq.trans (be_iaload bd_97_39) ?_
  refine bn_bd_c fun x7 => ?_
  refine Eq.trans (be_iastore bd_97_40) ?_
  refine bn_bd_c fun h8 => ?_
  refine Eq.trans (be_aload_n bd_97_41 rfl) ?_
  refine Eq.trans (be_getR bd_97_42 bf_3_13 rfl (Or.inl ⟨_, rfl⟩)) ?_
  refine bn_gR_c fun p9 => ?_
  refine Eq.trans (be_iconst (v := 4) bd_97_45 (by decide)) ?_
  refine Eq.trans (be_iload_n bd_97_46 rfl) ?_
  refine Eq.trans (be_imul bd_97_47) ?_
  refine Eq.trans (be_iconst (v := 0) bd_97_48 (by decide)) ?_
  refine Eq.trans (be_iastore bd_97_49) ?_
  refine bn_bd_c fun h10 => ?_
  refine Eq.trans (be_aload_n bd_97_50 rfl) ?_
  refine Eq.trans (be_getR bd_97_51 bf_3_13 rfl (Or.inl ⟨_, rfl⟩)) ?_
  refine bn_gR_c fun p11 => ?_
  refine Eq.trans (be_iconst (v := 4) bd_97_54 (by decide)) ?_
  refine Eq.trans (be_iload_n bd_97_55 rfl) ?_
  refine Eq.trans (be_imul bd_97_56) ?_
  refine Eq.trans (be_iconst (v := 2) bd_97_57 (by decide)) ?_
  refine Eq.trans (be_iadd bd_97_58) ?_
  refine Eq.trans (be_iconst (v := 1) bd_97_59 (by decide)) ?_
  refine Eq.trans (be_iastore bd_97_60) ?_
  refine bn_bd_c fun h12 => ?_
  refine Eq.trans (be_aload_n bd_97_61 rfl) ?_
  refine Eq.trans (be_getR bd_97_62 bf_3_13 rfl (Or.inl ⟨_, rfl⟩)) ?_
  refine bn_gR_c fun p13 => ?_
  refine Eq.trans (be_iconst (v := 4) bd_97_65 (by decide)) ?_
  refine Eq.trans (be_iload_n bd_97_66 rfl) ?_
  refine Eq.trans (be_imul bd_97_67) ?_
  refine Eq.trans (be_iconst (v := 3) bd_97_68 (by decide)) ?_
  refine Eq.trans (be_iadd bd_97_69) ?_
  refine Eq.trans (be_dup2 bd_97_70 ⟨rfl, rfl⟩) ?_
  refine Eq.trans (be_iaload bd_97_71) ?_
  refine bn_bd_c fun x14 => ?_
  refine Eq.trans (be_iconst (v := 1) bd_97_72 (by decide)) ?_
  refine Eq.trans (be_iadd bd_97_73) ?_
  refine Eq.trans (be_iastore bd_97_74) ?_
  refine bn_bd_c fun h15 => ?_
  exact be_return bd_97_75 rfl
theorem bs_X3_eat_0 (a0 : Nat) (a1 : Int32) (a2 : Int32) (h : bn_H) : bn_ev 98 0 [some (.ref a0), some (.int a1), some (.int a2)] [] h = bn_gd (bn_isC h a0 3) (bn_cI (bn_ev 86 0 [some (.ref a0), some (.int a1)] [] h) (fun x2 h1 => if x2 = 0 then (some (some (.int (-1)), h1)) else (bn_gd (bn_isC h1 a0 3) (bn_cI (bn_ev 87 0 [some (.ref a0), some (.int a2)] [] h1) (fun x4 h3 => if x4 = 0 then (some (some (.int (-1)), h3)) else (bn_gd (bn_isC h3 a0 3) (bn_cI (bn_ev 95 0 [some (.ref a0), some (.int a1), some (.int a2), none, none, none] [] h3) (fun x6 h5 => if x6 = 0 then (some (some (.int (-3)), h5)) else (bn_gd (bn_isC h5 a0 3) (bn_cV (bn_ev 94 0 [some (.ref a0), none] [] h5) (fun h7 => bn_gd (bn_isC h7 a0 3) (bn_cV (bn_ev 97 0 [some (.ref a0), some (.int a1), some (.int a2), none] [] h7) (fun h9 => bn_gd (bn_isC h9 a0 3) (bn_cI (bn_ev 88 0 [some (.ref a0), some (.int a2)] [] h9) (fun x12 h11 => some (some (.int x12), h11)))))))))))))))) := by
  refine Eq.trans (be_aload_n bd_98_0 rfl) ?_
  refine Eq.trans (be_iload_n bd_98_1 rfl) ?_
  refine Eq.trans (be_virtI (as := [.int a1]) (rr := []) (en := [some (.ref a0), some (.int a1)]) bd_98_2 bm_3_118 rfl rfl rfl ⟨Nat.le_of_ble_eq_true rfl, Nat.le_of_ble_eq_true rfl, Nat.le_of_ble_eq_true rfl, Nat.le_of_ble_eq_true rfl⟩ (Or.inr rfl)) ?_
  refine bn_gd_c (bn_cI_c fun x2 h1 => ?_)
  refine Eq.trans (be_if_eq (t := 16) bd_98_5 rfl) ?_
  refine bn_if_c ?_ ?_
  · refine Eq.trans (be_iconst (v := (-1)) bd_98_16 (by decide)) ?_
    exact be_ireturn bd_98_17 rfl
  · refine Eq.trans (be_aload_n bd_98_8 rfl) ?_
    refine Eq.trans (be_iload_n bd_98_9 rfl) ?_
    refine Eq.trans (be_virtI (as := [.int a2]) (rr := []) (en := [some (.ref a0), some (.int a2)]) bd_98_10 bm_3_125 rfl rfl rfl ⟨Nat.le_of_ble_eq_true rfl, Nat.le_of_ble_eq_true rfl, Nat.le_of_ble_eq_true rfl, Nat.le_of_ble_eq_true rfl⟩ (Or.inr rfl)) ?_
    refine bn_gd_c (bn_cI_c fun x4 h3 => ?_)
    refine Eq.trans (be_if_ne (t := 18) bd_98_13 rfl) ?_
    refine bn_if_c ?_ ?_
    · refine Eq.trans (be_iconst (v := (-1)) bd_98_16 (by decide)) ?_
      exact be_ireturn bd_98_17 rfl
    · refine Eq.trans (be_aload_n bd_98_18 rfl) ?_
      refine Eq.trans (be_iload_n bd_98_19 rfl) ?_
      refine Eq.trans (be_iload_n bd_98_20 rfl) ?_
      refine Eq.trans (be_virtI (as := [.int a2, .int a1]) (rr := []) (en := [some (.ref a0), some (.int a1), some (.int a2), none, none, none]) bd_98_21 bm_3_141 rfl rfl rfl ⟨Nat.le_of_ble_eq_true rfl, Nat.le_of_ble_eq_true rfl, Nat.le_of_ble_eq_true rfl, Nat.le_of_ble_eq_true rfl⟩ (Or.inr rfl)) ?_
      refine bn_gd_c (bn_cI_c fun x6 h5 => ?_)
      refine Eq.trans (be_if_ne (t := 30) bd_98_24 rfl) ?_
      refine bn_if_c ?_ ?_
      · refine Eq.trans (be_bipush (v := (-3)) bd_98_27 (by decide)) ?_
        exact be_ireturn bd_98_29 rfl
      · refine Eq.trans (be_aload_n bd_98_30 rfl) ?_
        refine Eq.trans (be_virtV (as := []) (rr := []) (en := [some (.ref a0), none]) bd_98_31 bm_3_145 rfl rfl rfl ⟨Nat.le_of_ble_eq_true rfl, Nat.le_of_ble_eq_true rfl, Nat.le_of_ble_eq_true rfl, Nat.le_of_ble_eq_true rfl⟩ rfl) ?_
        refine bn_gd_c (bn_cV_c fun h7 => ?_)
        refine Eq.trans (be_aload_n bd_98_34 rfl) ?_
        refine Eq.trans (be_iload_n bd_98_35 rfl) ?_
        refine Eq.trans (be_iload_n bd_98_36 rfl) ?_
        refine Eq.trans (be_virtV (as := [.int a2, .int a1]) (rr := []) (en := [some (.ref a0), some (.int a1), some (.int a2), none]) bd_98_37 bm_3_148 rfl rfl rfl ⟨Nat.le_of_ble_eq_true rfl, Nat.le_of_ble_eq_true rfl, Nat.le_of_ble_eq_true rfl, Nat.le_of_ble_eq_true rfl⟩ rfl) ?_
        refine bn_gd_c (bn_cV_c fun h9 => ?_)
        refine Eq.trans (be_aload_n bd_98_40 rfl) ?_
        refine Eq.trans (be_iload_n bd_98_41 rfl) ?_
        refine Eq.trans (be_virtI (as := [.int a2]) (rr := []) (en := [some (.ref a0), some (.int a2)]) bd_98_42 bm_3_138 rfl rfl rfl ⟨Nat.le_of_ble_eq_true rfl, Nat.le_of_ble_eq_true rfl, Nat.le_of_ble_eq_true rfl, Nat.le_of_ble_eq_true rfl⟩ (Or.inl rfl)) ?_
        refine bn_gd_c (bn_cI_c fun x12 h11 => ?_)
        exact be_ireturn bd_98_45 rfl
theorem bs_X3_give_0 (a0 : Nat) (a1 : Int32) (a2 : Int32) (h : bn_H) : bn_ev 99 0 [some (.ref a0), some (.int a1), some (.int a2), none] [] h = bn_gd (bn_isC h a0 3) (bn_cI (bn_ev 87 0 [some (.ref a0), some (.int a1)] [] h) (fun x2 h1 => if x2 = 0 then (some (some (.int (-1)), h1)) else (if a2 = 10 then (bn_ev 99 24 [some (.ref a0), some (.int a1), some (.int a2), none] [] h1) else (bn_gd (bn_isC h1 a0 3) (bn_cI (bn_ev 86 0 [some (.ref a0), some (.int a2)] [] h1) (fun x4 h3 => if x4 = 0 then (some (some (.int (-1)), h3)) else (bn_ev 99 24 [some (.ref a0), some (.int a1), some (.int a2), none] [] h3))))))) := by
  refine Eq.trans (be_aload_n bd_99_0 rfl) ?_
  refine Eq.trans (be_iload_n bd_99_1 rfl) ?_
  refine Eq.trans (be_virtI (as := [.int a1]) (rr := []) (en := [some (.ref a0), some (.int a1)]) bd_99_2 bm_3_125 rfl rfl rfl ⟨Nat.le_of_ble_eq_true rfl, Nat.le_of_ble_eq_true rfl, Nat.le_of_ble_eq_true rfl, Nat.le_of_ble_eq_true rfl⟩ (Or.inr rfl)) ?_
  refine bn_gd_c (bn_cI_c fun x2 h1 => ?_)
  refine Eq.trans (be_if_eq (t := 22) bd_99_5 rfl) ?_
  refine bn_if_c ?_ ?_
  · refine Eq.trans (be_iconst (v := (-1)) bd_99_22 (by decide)) ?_
    exact be_ireturn bd_99_23 rfl
  · refine Eq.trans (be_iload_n bd_99_8 rfl) ?_
    refine Eq.trans (be_bipush (v := 10) bd_99_9 (by decide)) ?_
    refine Eq.trans (be_icmp_eq (t := 24) bd_99_11 rfl) ?_
    refine bn_if_c ?_ ?_
    · rfl
    · refine Eq.trans (be_aload_n bd_99_14 rfl) ?_
      refine Eq.trans (be_iload_n bd_99_15 rfl) ?_
      refine Eq.trans (be_virtI (as := [.int a2]) (rr := []) (en := [some (.ref a0), some (.int a2)]) bd_99_16 bm_3_118 rfl rfl rfl ⟨Nat.le_of_ble_eq_true rfl, Nat.le_of_ble_eq_true rfl, Nat.le_of_ble_eq_true rfl, Nat.le_of_ble_eq_true rfl⟩ (Or.inr rfl)) ?_
      refine bn_gd_c (bn_cI_c fun x4 h3 => ?_)
      refine Eq.trans (be_if_ne (t := 24) bd_99_19 rfl) ?_
      refine bn_if_c ?_ ?_
      · refine Eq.trans (be_iconst (v := (-1)) bd_99_22 (by decide)) ?_
        exact be_ireturn bd_99_23 rfl
      · rfl
theorem bs_X3_give_24 (a0 : Nat) (a1 : Int32) (a2 : Int32) (o3 : Option Value) (h : bn_H) : bn_ev 99 24 [some (.ref a0), some (.int a1), some (.int a2), o3] [] h = bn_gd (bn_isC h a0 3) (bn_cI (bn_ev 89 0 [some (.ref a0), some (.int a1)] [] h) (fun x2 h1 => if x2 = 20 then (some (some (.int (-3)), h1)) else (if x2 = a2 then (some (some (.int (-3)), h1)) else (if a2 = 10 then (bn_ev 99 63 [some (.ref a0), some (.int a1), some (.int a2), some (.int x2)] [] h1) else (bn_gR h1 a0 3 6 (fun p3 => (bn_ld h1 p3 0 ((4 * a2) + 1)).bind (fun x4 => if x4 = 0 then (some (some (.int (-3)), h1)) else (bn_ev 99 63 [some (.ref a0), some (.int a1), some (.int a2), some (.int x2)] [] h1)))))))) := by
  refine Eq.trans (be_aload_n bd_99_24 rfl) ?_
  refine Eq.trans (be_iload_n bd_99_25 rfl) ?_
  refine Eq.trans (be_virtI (as := [.int a1]) (rr := []) (en := [some (.ref a0), some (.int a1)]) bd_99_26 bm_3_115 rfl rfl rfl ⟨Nat.le_of_ble_eq_true rfl, Nat.le_of_ble_eq_true rfl, Nat.le_of_ble_eq_true rfl, Nat.le_of_ble_eq_true rfl⟩ (Or.inl rfl)) ?_
  refine bn_gd_c (bn_cI_c fun x2 h1 => ?_)
  refine Eq.trans (be_istore_n (ls' := [some (.ref a0), some (.int a1), some (.int a2), some (.int x2)]) bd_99_29 (Nat.le_of_ble_eq_true rfl) rfl) ?_
  refine Eq.trans (be_iload_n bd_99_30 rfl) ?_
  refine Eq.trans (be_bipush (v := 20) bd_99_31 (by decide)) ?_
  refine Eq.trans (be_icmp_eq (t := 60) bd_99_33 rfl) ?_
  refine bn_if_c ?_ ?_
  · refine Eq.trans (be_bipush (v := (-3)) bd_99_60 (by decide)) ?_
    exact be_ireturn bd_99_62 rfl
  · refine Eq.trans (be_iload_n bd_99_36 rfl) ?_
    refine Eq.trans (be_iload_n bd_99_37 rfl) ?_
    refine Eq.trans (be_icmp_eq (t := 60) bd_99_38 rfl) ?_
    refine bn_if_c ?_ ?_
    · refine Eq.trans (be_bipush (v := (-3)) bd_99_60 (by decide)) ?_
      exact be_ireturn bd_99_62 rfl
    · refine Eq.trans (be_iload_n bd_99_41 rfl) ?_
      refine Eq.trans (be_bipush (v := 10) bd_99_42 (by decide)) ?_
      refine Eq.trans (be_icmp_eq (t := 63) bd_99_44 rfl) ?_
      refine bn_if_c ?_ ?_
      · rfl
      · refine Eq.trans (be_aload_n bd_99_47 rfl) ?_
        refine Eq.trans (be_getR bd_99_48 bf_3_13 rfl (Or.inl ⟨_, rfl⟩)) ?_
        refine bn_gR_c fun p3 => ?_
        refine Eq.trans (be_iconst (v := 4) bd_99_51 (by decide)) ?_
        refine Eq.trans (be_iload_n bd_99_52 rfl) ?_
        refine Eq.trans (be_imul bd_99_53) ?_
        refine Eq.trans (be_iconst (v := 1) bd_99_54 (by decide)) ?_
        refine Eq.trans (be_iadd bd_99_55) ?_
        refine Eq.trans (be_iaload bd_99_56) ?_
        refine bn_bd_c fun x4 => ?_
        refine Eq.trans (be_if_ne (t := 63) bd_99_57 rfl) ?_
        refine bn_if_c ?_ ?_
        · refine Eq.trans (be_bipush (v := (-3)) bd_99_60 (by decide)) ?_
          exact be_ireturn bd_99_62 rfl
        · rfl
theorem bs_X3_give_63 (a0 : Nat) (a1 : Int32) (a2 : Int32) (a3 : Int32) (h : bn_H) : bn_ev 99 63 [some (.ref a0), some (.int a1), some (.int a2), some (.int a3)] [] h = bn_gd (bn_isC h a0 3) (bn_cV (bn_ev 94 0 [some (.ref a0), none] [] h) (fun h1 => bn_gR h1 a0 3 6 (fun p3 => (bn_sd h1 p3 0 (21 + (5 * a1)) a2).bind (fun h4 => some (some (.int a3), h4))))) := by
  refine Eq.trans (be_aload_n bd_99_63 rfl) ?_
  refine Eq.trans (be_virtV (as := []) (rr := []) (en := [some (.ref a0), none]) bd_99_64 bm_3_145 rfl rfl rfl ⟨Nat.le_of_ble_eq_true rfl, Nat.le_of_ble_eq_true rfl, Nat.le_of_ble_eq_true rfl, Nat.le_of_ble_eq_true rfl⟩ rfl) ?_
  refine bn_gd_c (bn_cV_c fun h1 => ?_)
  refine Eq.trans (be_aload_n bd_99_67 rfl) ?_
  refine Eq.trans (be_getR bd_99_68 bf_3_13 rfl (Or.inl ⟨_, rfl⟩)) ?_
  refine bn_gR_c fun p3 => ?_
  refine Eq.trans (be_bipush (v := 21) bd_99_71 (by decide)) ?_
  refine Eq.trans (be_iconst (v := 5) bd_99_73 (by decide)) ?_
  refine Eq.trans (be_iload_n bd_99_74 rfl) ?_
  refine Eq.trans (be_imul bd_99_75) ?_
  refine Eq.trans (be_iadd bd_99_76) ?_
  refine Eq.trans (be_iload_n bd_99_77 rfl) ?_
  refine Eq.trans (be_iastore bd_99_78) ?_
  refine bn_bd_c fun h4 => ?_
  refine Eq.trans (be_iload_n bd_99_79 rfl) ?_
  exact be_ireturn bd_99_80 rfl
theorem bs_X3_cutOf_0 (a0 : Int32) (h : bn_H) : bn_ev 100 0 [some (.int a0)] [] h = some (some (.int (if (a0 / 10) = 9 then a0 - 30 else if (bn_rem a0 10) = 9 then a0 - 3 else a0)), h) := by
  refine Eq.trans (be_iload_n bd_100_0 rfl) ?_
  refine Eq.trans (be_bipush (v := 10) bd_100_1 (by decide)) ?_
  refine Eq.trans (be_idiv_c bd_100_3 (by decide)) ?_
  refine Eq.trans (be_bipush (v := 9) bd_100_4 (by decide)) ?_
  refine Eq.trans (be_icmp_ne (t := 16) bd_100_6 rfl) ?_
  refine Eq.trans (bn_dia (J := 32) (a := a0 - 30) (b := if (bn_rem a0 10) = 9 then a0 - 3 else a0) (by
      refine Eq.trans (be_iload_n bd_100_9 rfl) ?_
      refine Eq.trans (be_bipush (v := 30) bd_100_10 (by decide)) ?_
      refine Eq.trans (be_isub bd_100_12) ?_
      refine Eq.trans (be_goto (t := 32) bd_100_13 rfl) ?_
      rfl) (by
      refine Eq.trans (be_iload_n bd_100_16 rfl) ?_
      refine Eq.trans (be_bipush (v := 10) bd_100_17 (by decide)) ?_
      refine Eq.trans (be_irem_c bd_100_19 (by decide)) ?_
      refine Eq.trans (be_bipush (v := 9) bd_100_20 (by decide)) ?_
      refine Eq.trans (be_icmp_ne (t := 31) bd_100_22 rfl) ?_
      refine Eq.trans (bn_dia (J := 32) (a := a0 - 3) (b := a0) (by
      refine Eq.trans (be_iload_n bd_100_25 rfl) ?_
      refine Eq.trans (be_iconst (v := 3) bd_100_26 (by decide)) ?_
      refine Eq.trans (be_isub bd_100_27) ?_
      refine Eq.trans (be_goto (t := 32) bd_100_28 rfl) ?_
      rfl) (by
      refine Eq.trans (be_iload_n bd_100_31 rfl) ?_
      rfl)) ?_
      rfl)) ?_
  exact be_ireturn bd_100_32 rfl
theorem bs_X3_cut_0 (a0 : Nat) (a1 : Int32) (h : bn_H) : bn_ev 101 0 [some (.ref a0), some (.int a1)] [] h = bn_gd (bn_isC h a0 3) (bn_cI (bn_ev 87 0 [some (.ref a0), some (.int a1)] [] h) (fun x2 h1 => if x2 = 0 then (some (some (.int (-1)), h1)) else (bn_gd (bn_isC h1 a0 3) (bn_cI (bn_ev 89 0 [some (.ref a0), some (.int a1)] [] h1) (fun x4 h3 => if x4 = 20 then (some (some (.int (-3)), h3)) else (bn_gd (bn_isC h3 a0 3) (bn_cI (bn_ev 88 0 [some (.ref a0), some (.int a1)] [] h3) (fun x6 h5 => bn_cI (bn_ev 100 0 [some (.int x6)] [] h5) (fun x8 h7 => bn_gd (bn_isC h7 a0 3) (bn_cI (bn_ev 88 0 [some (.ref a0), some (.int a1)] [] h7) (fun x10 h9 => if x8 = x10 then (some (some (.int (-3)), h9)) else (bn_gd (bn_isC h9 a0 3) (bn_cV (bn_ev 94 0 [some (.ref a0), none] [] h9) (fun h11 => bn_gR h11 a0 3 6 (fun p13 => bn_gd (bn_isC h11 a0 3) (bn_cI (bn_ev 88 0 [some (.ref a0), some (.int a1)] [] h11) (fun x15 h14 => bn_cI (bn_ev 100 0 [some (.int x15)] [] h14) (fun x17 h16 => (bn_sd h16 p13 0 (20 + (5 * a1)) x17).bind (fun h18 => bn_gd (bn_isC h18 a0 3) (bn_cI (bn_ev 88 0 [some (.ref a0), some (.int a1)] [] h18) (fun x20 h19 => some (some (.int x20), h19)))))))))))))))))))))) := by
  refine Eq.trans (be_aload_n bd_101_0 rfl) ?_
  refine Eq.trans (be_iload_n bd_101_1 rfl) ?_
  refine Eq.trans (be_virtI (as := [.int a1]) (rr := []) (en := [some (.ref a0), some (.int a1)]) bd_101_2 bm_3_125 rfl rfl rfl ⟨Nat.le_of_ble_eq_true rfl, Nat.le_of_ble_eq_true rfl, Nat.le_of_ble_eq_true rfl, Nat.le_of_ble_eq_true rfl⟩ (Or.inr rfl)) ?_
  refine bn_gd_c (bn_cI_c fun x2 h1 => ?_)
  refine Eq.trans (be_if_ne (t := 10) bd_101_5 rfl) ?_
  refine bn_if_c ?_ ?_
  · refine Eq.trans (be_iconst (v := (-1)) bd_101_8 (by decide)) ?_
    exact be_ireturn bd_101_9 rfl
  · refine Eq.trans (be_aload_n bd_101_10 rfl) ?_
    refine Eq.trans (be_iload_n bd_101_11 rfl) ?_
    refine Eq.trans (be_virtI (as := [.int a1]) (rr := []) (en := [some (.ref a0), some (.int a1)]) bd_101_12 bm_3_115 rfl rfl rfl ⟨Nat.le_of_ble_eq_true rfl, Nat.le_of_ble_eq_true rfl, Nat.le_of_ble_eq_true rfl, Nat.le_of_ble_eq_true rfl⟩ (Or.inl rfl)) ?_
    refine bn_gd_c (bn_cI_c fun x4 h3 => ?_)
    refine Eq.trans (be_bipush (v := 20) bd_101_15 (by decide)) ?_
    refine Eq.trans (be_icmp_eq (t := 36) bd_101_17 rfl) ?_
    refine bn_if_c ?_ ?_
    · refine Eq.trans (be_bipush (v := (-3)) bd_101_36 (by decide)) ?_
      exact be_ireturn bd_101_38 rfl
    · refine Eq.trans (be_aload_n bd_101_20 rfl) ?_
      refine Eq.trans (be_iload_n bd_101_21 rfl) ?_
      refine Eq.trans (be_virtI (as := [.int a1]) (rr := []) (en := [some (.ref a0), some (.int a1)]) bd_101_22 bm_3_138 rfl rfl rfl ⟨Nat.le_of_ble_eq_true rfl, Nat.le_of_ble_eq_true rfl, Nat.le_of_ble_eq_true rfl, Nat.le_of_ble_eq_true rfl⟩ (Or.inl rfl)) ?_
      refine bn_gd_c (bn_cI_c fun x6 h5 => ?_)
      refine Eq.trans (be_statI (as := [.int x6]) (rr := []) (en := [some (.int x6)]) bd_101_25 bm_3_152 rfl rfl rfl ⟨Nat.le_of_ble_eq_true rfl, Nat.le_of_ble_eq_true rfl, Nat.le_of_ble_eq_true rfl, Nat.le_of_ble_eq_true rfl⟩ (Or.inl rfl)) ?_
      refine bn_cI_c fun x8 h7 => ?_
      refine Eq.trans (be_aload_n bd_101_28 rfl) ?_
      refine Eq.trans (be_iload_n bd_101_29 rfl) ?_
      refine Eq.trans (be_virtI (as := [.int a1]) (rr := [.int x8]) (en := [some (.ref a0), some (.int a1)]) bd_101_30 bm_3_138 rfl rfl rfl ⟨Nat.le_of_ble_eq_true rfl, Nat.le_of_ble_eq_true rfl, Nat.le_of_ble_eq_true rfl, Nat.le_of_ble_eq_true rfl⟩ (Or.inl rfl)) ?_
      refine bn_gd_c (bn_cI_c fun x10 h9 => ?_)
      refine Eq.trans (be_icmp_ne (t := 39) bd_101_33 rfl) ?_
      refine bn_if_c ?_ ?_
      · refine Eq.trans (be_bipush (v := (-3)) bd_101_36 (by decide)) ?_
        exact be_ireturn bd_101_38 rfl
      · refine Eq.trans (be_aload_n bd_101_39 rfl) ?_
        refine Eq.trans (be_virtV (as := []) (rr := []) (en := [some (.ref a0), none]) bd_101_40 bm_3_145 rfl rfl rfl ⟨Nat.le_of_ble_eq_true rfl, Nat.le_of_ble_eq_true rfl, Nat.le_of_ble_eq_true rfl, Nat.le_of_ble_eq_true rfl⟩ rfl) ?_
        refine bn_gd_c (bn_cV_c fun h11 => ?_)
        refine Eq.trans (be_aload_n bd_101_43 rfl) ?_
        refine Eq.trans (be_getR bd_101_44 bf_3_13 rfl (Or.inl ⟨_, rfl⟩)) ?_
        refine bn_gR_c fun p13 => ?_
        refine Eq.trans (be_bipush (v := 20) bd_101_47 (by decide)) ?_
        refine Eq.trans (be_iconst (v := 5) bd_101_49 (by decide)) ?_
        refine Eq.trans (be_iload_n bd_101_50 rfl) ?_
        refine Eq.trans (be_imul bd_101_51) ?_
        refine Eq.trans (be_iadd bd_101_52) ?_
        refine Eq.trans (be_aload_n bd_101_53 rfl) ?_
        refine Eq.trans (be_iload_n bd_101_54 rfl) ?_
        refine Eq.trans (be_virtI (as := [.int a1]) (rr := [.int (20 + (5 * a1)), .ref p13]) (en := [some (.ref a0), some (.int a1)]) bd_101_55 bm_3_138 rfl rfl rfl ⟨Nat.le_of_ble_eq_true rfl, Nat.le_of_ble_eq_true rfl, Nat.le_of_ble_eq_true rfl, Nat.le_of_ble_eq_true rfl⟩ (Or.inl rfl)) ?_
        refine bn_gd_c (bn_cI_c fun x15 h14 => ?_)
        refine Eq.trans (be_statI (as := [.int x15]) (rr := [.int (20 + (5 * a1)), .ref p13]) (en := [some (.int x15)]) bd_101_58 bm_3_152 rfl rfl rfl ⟨Nat.le_of_ble_eq_true rfl, Nat.le_of_ble_eq_true rfl, Nat.le_of_ble_eq_true rfl, Nat.le_of_ble_eq_true rfl⟩ (Or.inl rfl)) ?_
        refine bn_cI_c fun x17 h16 => ?_
        refine Eq.trans (be_iastore bd_101_61) ?_
        refine bn_bd_c fun h18 => ?_
        refine Eq.trans (be_aload_n bd_101_62 rfl) ?_
        refine Eq.trans (be_iload_n bd_101_63 rfl) ?_
        refine Eq.trans (be_virtI (as := [.int a1]) (rr := []) (en := [some (.ref a0), some (.int a1)]) bd_101_64 bm_3_138 rfl rfl rfl ⟨Nat.le_of_ble_eq_true rfl, Nat.le_of_ble_eq_true rfl, Nat.le_of_ble_eq_true rfl, Nat.le_of_ble_eq_true rfl⟩ (Or.inl rfl)) ?_
        refine bn_gd_c (bn_cI_c fun x20 h19 => ?_)
        exact be_ireturn bd_101_67 rfl
