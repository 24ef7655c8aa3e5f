/-! segments: Text, BreadNumbered -/
theorem bs_X1_append_0 (a0 : Nat) (a1 : Int32) (h : bn_H) : bn_ev 33 0 [some (.ref a0), some (.int a1)] [] h = bn_gI h a0 1 1 (fun x1 => if 80 ≤ x1 then (some (none, h)) else (bn_gR h a0 1 0 (fun p2 => bn_gI h a0 1 1 (fun x3 => (bn_sd h p2 0 x3 a1).bind (fun h4 => bn_gI h4 a0 1 1 (fun x5 => (bn_pf h4 a0 1 1 (.int (x5 + 1))).bind (fun h6 => some (none, h6)))))))) := by
  refine Eq.trans (be_aload_n bd_33_0 rfl) ?_
  refine Eq.trans (be_getI bd_33_1 bf_1_15 rfl) ?_
  refine bn_gI_c fun x1 => ?_
  refine Eq.trans (be_bipush (v := 80) bd_33_4 (by decide)) ?_
  refine Eq.trans (be_icmp_ge (t := 29) bd_33_6 rfl) ?_
  refine bn_if_c ?_ ?_
  · exact be_return bd_33_29 rfl
  · refine Eq.trans (be_aload_n bd_33_9 rfl) ?_
    refine Eq.trans (be_getR bd_33_10 bf_1_9 rfl (Or.inl ⟨_, rfl⟩)) ?_
    refine bn_gR_c fun p2 => ?_
    refine Eq.trans (be_aload_n bd_33_13 rfl) ?_
    refine Eq.trans (be_getI bd_33_14 bf_1_15 rfl) ?_
    refine bn_gI_c fun x3 => ?_
    refine Eq.trans (be_iload_n bd_33_17 rfl) ?_
    refine Eq.trans (be_iastore bd_33_18) ?_
    refine bn_bd_c fun h4 => ?_
    refine Eq.trans (be_aload_n bd_33_19 rfl) ?_
    refine Eq.trans (be_dup bd_33_20 rfl) ?_
    refine Eq.trans (be_getI bd_33_21 bf_1_15 rfl) ?_
    refine bn_gI_c fun x5 => ?_
    refine Eq.trans (be_iconst (v := 1) bd_33_24 (by decide)) ?_
    refine Eq.trans (be_iadd bd_33_25) ?_
    refine Eq.trans (be_putI bd_33_26 bf_1_15 rfl rfl) ?_
    refine bn_bd_c fun h6 => ?_
    exact be_return bd_33_29 rfl
theorem bs_X1_readInto_0 (a0 : Nat) (a1 : Nat) (h : bn_H) : bn_ev 34 0 [some (.ref a0), some (.ref a1), none, none] [] h = (bn_pf h a0 1 2 (.int 0)).bind (fun h1 => bn_gd (bn_isC h1 a0 1) (bn_cI (bn_ev 35 0 [some (.ref a0), some (.ref a1), none, none, none] [] h1) (fun x3 h2 => if x3 = 0 then (bn_gI h2 a0 1 2 (fun x4 => some (some (.int x4), h2))) else (bn_ev 34 20 [some (.ref a0), some (.ref a1), some (.int 0), none] [] h2)))) := by
  refine Eq.trans (be_aload_n bd_34_0 rfl) ?_
  refine Eq.trans (be_iconst (v := 0) bd_34_1 (by decide)) ?_
  refine Eq.trans (be_putI bd_34_2 bf_1_19 rfl rfl) ?_
  refine bn_bd_c fun h1 => ?_
  refine Eq.trans (be_aload_n bd_34_5 rfl) ?_
  refine Eq.trans (be_aload_n bd_34_6 rfl) ?_
  refine Eq.trans (be_virtI (as := [.ref a1]) (rr := []) (en := [some (.ref a0), some (.ref a1), none, none, none]) bd_34_7 bm_1_22 rfl rfl rfl ⟨Nat.le_of_ble_eq_true rfl, Nat.le_of_ble_eq_true rfl, Nat.le_of_ble_eq_true rfl, Nat.le_of_ble_eq_true rfl⟩ (Or.inr rfl)) ?_
  refine bn_gd_c (bn_cI_c fun x3 h2 => ?_)
  refine Eq.trans (be_if_ne (t := 18) bd_34_10 rfl) ?_
  refine bn_if_c ?_ ?_
  · refine Eq.trans (be_aload_n bd_34_13 rfl) ?_
    refine Eq.trans (be_getI bd_34_14 bf_1_19 rfl) ?_
    refine bn_gI_c fun x4 => ?_
    exact be_ireturn bd_34_17 rfl
  · refine Eq.trans (be_iconst (v := 0) bd_34_18 (by decide)) ?_
    refine Eq.trans (be_istore_n (ls' := [some (.ref a0), some (.ref a1), some (.int 0), none]) bd_34_19 (Nat.le_of_ble_eq_true rfl) rfl) ?_
    rfl
theorem bs_X1_readInto_20 (a0 : Nat) (a1 : Nat) (a2 : Int32) (o3 : Option Value) (h : bn_H) : bn_ev 34 20 [some (.ref a0), some (.ref a1), some (.int a2), o3] [] h = if 15 ≤ a2 then (bn_ev 34 75 [some (.ref a0), some (.ref a1), some (.int a2), o3] [] h) else (bn_gI h a0 1 2 (fun x1 => bn_gI h a0 1 1 (fun x2 => if x2 ≤ x1 then (bn_ev 34 75 [some (.ref a0), some (.ref a1), some (.int a2), o3] [] h) else (bn_gd (bn_isC h a0 1) (bn_cI (bn_ev 42 0 [some (.ref a0), some (.int 80)] [] h) (fun x4 h3 => if x4 = 0 then (bn_gd (bn_isC h3 a0 1) (bn_cI (bn_ev 37 0 [some (.ref a0), some (.ref a1), none, none, none] [] h3) (fun x6 h5 => if x6 = 0 then (bn_gI h5 a0 1 2 (fun x7 => some (some (.int x7), h5))) else (bn_ev 34 20 [some (.ref a0), some (.ref a1), some (.int (a2 + 1)), some (.int x6)] [] h5)))) else (bn_gd (bn_isC h3 a0 1) (bn_cI (bn_ev 36 0 [some (.ref a0), some (.ref a1), none] [] h3) (fun x9 h8 => if x9 = 0 then (bn_gI h8 a0 1 2 (fun x10 => some (some (.int x10), h8))) else (bn_ev 34 20 [some (.ref a0), some (.ref a1), some (.int (a2 + 1)), some (.int x9)] [] h8)))))))))) := by
  refine Eq.trans (be_iload_n bd_34_20 rfl) ?_
  refine Eq.trans (be_bipush (v := 15) bd_34_21 (by decide)) ?_
  refine Eq.trans (be_icmp_ge (t := 75) bd_34_23 rfl) ?_
  refine bn_if_c ?_ ?_
  · rfl
  · refine Eq.trans (be_aload_n bd_34_26 rfl) ?_
    refine Eq.trans (be_getI bd_34_27 bf_1_19 rfl) ?_
    refine bn_gI_c fun x1 => ?_
    refine Eq.trans (be_aload_n bd_34_30 rfl) ?_
    refine Eq.trans (be_getI bd_34_31 bf_1_15 rfl) ?_
    refine bn_gI_c fun x2 => ?_
    refine Eq.trans (be_icmp_ge (t := 75) bd_34_34 rfl) ?_
    refine bn_if_c ?_ ?_
    · rfl
    · refine Eq.trans (be_aload_n bd_34_37 rfl) ?_
      refine Eq.trans (be_bipush (v := 80) bd_34_38 (by decide)) ?_
      refine Eq.trans (be_virtI (as := [.int 80]) (rr := []) (en := [some (.ref a0), some (.int 80)]) bd_34_40 bm_1_26 rfl rfl rfl ⟨Nat.le_of_ble_eq_true rfl, Nat.le_of_ble_eq_true rfl, Nat.le_of_ble_eq_true rfl, Nat.le_of_ble_eq_true rfl⟩ (Or.inr rfl)) ?_
      refine bn_gd_c (bn_cI_c fun x4 h3 => ?_)
      refine Eq.trans (be_if_eq (t := 54) bd_34_43 rfl) ?_
      refine bn_if_c ?_ ?_
      · refine Eq.trans (be_aload_n bd_34_54 rfl) ?_
        refine Eq.trans (be_aload_n bd_34_55 rfl) ?_
        refine Eq.trans (be_virtI (as := [.ref a1]) (rr := []) (en := [some (.ref a0), some (.ref a1), none, none, none]) bd_34_56 bm_1_33 rfl rfl rfl ⟨Nat.le_of_ble_eq_true rfl, Nat.le_of_ble_eq_true rfl, Nat.le_of_ble_eq_true rfl, Nat.le_of_ble_eq_true rfl⟩ (Or.inr rfl)) ?_
        refine bn_gd_c (bn_cI_c fun x6 h5 => ?_)
        refine Eq.trans (be_istore_n (ls' := [some (.ref a0), some (.ref a1), some (.int a2), some (.int x6)]) bd_34_59 (Nat.le_of_ble_eq_true rfl) rfl) ?_
        refine Eq.trans (be_iload_n bd_34_60 rfl) ?_
        refine Eq.trans (be_if_ne (t := 69) bd_34_61 rfl) ?_
        refine bn_if_c ?_ ?_
        · refine Eq.trans (be_aload_n bd_34_64 rfl) ?_
          refine Eq.trans (be_getI bd_34_65 bf_1_19 rfl) ?_
          refine bn_gI_c fun x7 => ?_
          exact be_ireturn bd_34_68 rfl
        · refine Eq.trans (be_iinc (v := 1) (ls' := [some (.ref a0), some (.ref a1), some (.int (a2 + 1)), some (.int x6)]) bd_34_69 rfl (by decide) (Nat.le_of_ble_eq_true rfl) rfl) ?_
          refine Eq.trans (be_goto (t := 20) bd_34_72 rfl) ?_
          rfl
      · refine Eq.trans (be_aload_n bd_34_46 rfl) ?_
        refine Eq.trans (be_aload_n bd_34_47 rfl) ?_
        refine Eq.trans (be_virtI (as := [.ref a1]) (rr := []) (en := [some (.ref a0), some (.ref a1), none]) bd_34_48 bm_1_30 rfl rfl rfl ⟨Nat.le_of_ble_eq_true rfl, Nat.le_of_ble_eq_true rfl, Nat.le_of_ble_eq_true rfl, Nat.le_of_ble_eq_true rfl⟩ (Or.inr rfl)) ?_
        refine bn_gd_c (bn_cI_c fun x9 h8 => ?_)
        refine Eq.trans (be_goto (t := 59) bd_34_51 rfl) ?_
        refine Eq.trans (be_istore_n (ls' := [some (.ref a0), some (.ref a1), some (.int a2), some (.int x9)]) bd_34_59 (Nat.le_of_ble_eq_true rfl) rfl) ?_
        refine Eq.trans (be_iload_n bd_34_60 rfl) ?_
        refine Eq.trans (be_if_ne (t := 69) bd_34_61 rfl) ?_
        refine bn_if_c ?_ ?_
        · refine Eq.trans (be_aload_n bd_34_64 rfl) ?_
          refine Eq.trans (be_getI bd_34_65 bf_1_19 rfl) ?_
          refine bn_gI_c fun x10 => ?_
          exact be_ireturn bd_34_68 rfl
        · refine Eq.trans (be_iinc (v := 1) (ls' := [some (.ref a0), some (.ref a1), some (.int (a2 + 1)), some (.int x9)]) bd_34_69 rfl (by decide) (Nat.le_of_ble_eq_true rfl) rfl) ?_
          refine Eq.trans (be_goto (t := 20) bd_34_72 rfl) ?_
          rfl
theorem bs_X1_readInto_75 (a0 : Nat) (a1 : Nat) (a2 : Int32) (o3 : Option Value) (h : bn_H) : bn_ev 34 75 [some (.ref a0), some (.ref a1), some (.int a2), o3] [] h = bn_gI h a0 1 2 (fun x1 => bn_gI h a0 1 1 (fun x2 => if x2 ≤ x1 then (some (some (.int (-9)), h)) else (bn_gI h a0 1 2 (fun x3 => some (some (.int x3), h))))) := by
  refine Eq.trans (be_aload_n bd_34_75 rfl) ?_
  refine Eq.trans (be_getI bd_34_76 bf_1_19 rfl) ?_
  refine bn_gI_c fun x1 => ?_
  refine Eq.trans (be_aload_n bd_34_79 rfl) ?_
  refine Eq.trans (be_getI bd_34_80 bf_1_15 rfl) ?_
  refine bn_gI_c fun x2 => ?_
  refine Eq.trans (be_icmp_ge (t := 93) bd_34_83 rfl) ?_
  refine bn_if_c ?_ ?_
  · refine Eq.trans (be_bipush (v := (-9)) bd_34_93 (by decide)) ?_
    exact be_ireturn bd_34_95 rfl
  · refine Eq.trans (be_aload_n bd_34_86 rfl) ?_
    refine Eq.trans (be_getI bd_34_87 bf_1_19 rfl) ?_
    refine bn_gI_c fun x3 => ?_
    refine Eq.trans (be_goto (t := 95) bd_34_90 rfl) ?_
    exact be_ireturn bd_34_95 rfl
theorem bs_X1_readRules_0 (a0 : Nat) (a1 : Nat) (h : bn_H) : bn_ev 35 0 [some (.ref a0), some (.ref a1), none, none, none] [] h = bn_gd (bn_isC h a0 1) (bn_cI (bn_ev 41 0 [some (.ref a0), some (.int 83)] [] h) (fun x2 h1 => if x2 = 0 then (some (some (.int 0), h1)) else (bn_gd (bn_isC h1 a0 1) (bn_cI (bn_ev 43 0 [some (.ref a0), some (.int 0), some (.int 2), none] [] h1) (fun x4 h3 => if 0 ≤ x4 then (bn_gd (bn_isC h3 a0 1) (bn_cI (bn_ev 43 0 [some (.ref a0), some (.int 1), some (.int 9), none] [] h3) (fun x6 h5 => bn_ev 35 34 [some (.ref a0), some (.ref a1), some (.int x4), none, none] [.int x6] h5))) else (bn_ev 35 34 [some (.ref a0), some (.ref a1), some (.int x4), none, none] [.int (-9)] h3)))))) := by
  refine Eq.trans (be_aload_n bd_35_0 rfl) ?_
  refine Eq.trans (be_bipush (v := 83) bd_35_1 (by decide)) ?_
  refine Eq.trans (be_virtI (as := [.int 83]) (rr := []) (en := [some (.ref a0), some (.int 83)]) bd_35_3 bm_1_36 rfl rfl rfl ⟨Nat.le_of_ble_eq_true rfl, Nat.le_of_ble_eq_true rfl, Nat.le_of_ble_eq_true rfl, Nat.le_of_ble_eq_true rfl⟩ (Or.inr rfl)) ?_
  refine bn_gd_c (bn_cI_c fun x2 h1 => ?_)
  refine Eq.trans (be_if_ne (t := 11) bd_35_6 rfl) ?_
  refine bn_if_c ?_ ?_
  · refine Eq.trans (be_iconst (v := 0) bd_35_9 (by decide)) ?_
    exact be_z0 bd_35_10 rfl (Or.inl rfl)
  · refine Eq.trans (be_aload_n bd_35_11 rfl) ?_
    refine Eq.trans (be_iconst (v := 0) bd_35_12 (by decide)) ?_
    refine Eq.trans (be_iconst (v := 2) bd_35_13 (by decide)) ?_
    refine Eq.trans (be_virtI (as := [.int 2, .int 0]) (rr := []) (en := [some (.ref a0), some (.int 0), some (.int 2), none]) bd_35_14 bm_1_39 rfl rfl rfl ⟨Nat.le_of_ble_eq_true rfl, Nat.le_of_ble_eq_true rfl, Nat.le_of_ble_eq_true rfl, Nat.le_of_ble_eq_true rfl⟩ (Or.inl rfl)) ?_
    refine bn_gd_c (bn_cI_c fun x4 h3 => ?_)
    refine Eq.trans (be_istore_n (ls' := [some (.ref a0), some (.ref a1), some (.int x4), none, none]) bd_35_17 (Nat.le_of_ble_eq_true rfl) rfl) ?_
    refine Eq.trans (be_iload_n bd_35_18 rfl) ?_
    refine Eq.trans (be_if_ge (t := 27) bd_35_19 rfl) ?_
    refine bn_if_c ?_ ?_
    · refine Eq.trans (be_aload_n bd_35_27 rfl) ?_
      refine Eq.trans (be_iconst (v := 1) bd_35_28 (by decide)) ?_
      refine Eq.trans (be_bipush (v := 9) bd_35_29 (by decide)) ?_
      refine Eq.trans (be_virtI (as := [.int 9, .int 1]) (rr := []) (en := [some (.ref a0), some (.int 1), some (.int 9), none]) bd_35_31 bm_1_39 rfl rfl rfl ⟨Nat.le_of_ble_eq_true rfl, Nat.le_of_ble_eq_true rfl, Nat.le_of_ble_eq_true rfl, Nat.le_of_ble_eq_true rfl⟩ (Or.inl rfl)) ?_
      refine bn_gd_c (bn_cI_c fun x6 h5 => ?_)
      rfl
    · refine Eq.trans (be_bipush (v := (-9)) bd_35_22 (by decide)) ?_
      refine Eq.trans (be_goto (t := 34) bd_35_24 rfl) ?_
      rfl
theorem bs_X1_readRules_34 (a0 : Nat) (a1 : Nat) (a2 : Int32) (o3 : Option Value) (o4 : Option Value) (s0 : Int32) (h : bn_H) : bn_ev 35 34 [some (.ref a0), some (.ref a1), some (.int a2), o3, o4] [.int s0] h = if 0 ≤ s0 then (bn_gd (bn_isC h a0 1) (bn_cI (bn_ev 43 0 [some (.ref a0), some (.int 1), some (.int 9), none] [] h) (fun x2 h1 => bn_ev 35 51 [some (.ref a0), some (.ref a1), some (.int a2), some (.int s0), o4] [.int x2] h1))) else (bn_ev 35 51 [some (.ref a0), some (.ref a1), some (.int a2), some (.int s0), o4] [.int (-9)] h) := by
  refine Eq.trans (be_istore_n (ls' := [some (.ref a0), some (.ref a1), some (.int a2), some (.int s0), o4]) bd_35_34 (Nat.le_of_ble_eq_true rfl) rfl) ?_
  refine Eq.trans (be_iload_n bd_35_35 rfl) ?_
  refine Eq.trans (be_if_ge (t := 44) bd_35_36 rfl) ?_
  refine bn_if_c ?_ ?_
  · refine Eq.trans (be_aload_n bd_35_44 rfl) ?_
    refine Eq.trans (be_iconst (v := 1) bd_35_45 (by decide)) ?_
    refine Eq.trans (be_bipush (v := 9) bd_35_46 (by decide)) ?_
    refine Eq.trans (be_virtI (as := [.int 9, .int 1]) (rr := []) (en := [some (.ref a0), some (.int 1), some (.int 9), none]) bd_35_48 bm_1_39 rfl rfl rfl ⟨Nat.le_of_ble_eq_true rfl, Nat.le_of_ble_eq_true rfl, Nat.le_of_ble_eq_true rfl, Nat.le_of_ble_eq_true rfl⟩ (Or.inl rfl)) ?_
    refine bn_gd_c (bn_cI_c fun x2 h1 => ?_)
    rfl
  · refine Eq.trans (be_bipush (v := (-9)) bd_35_39 (by decide)) ?_
    refine Eq.trans (be_goto (t := 51) bd_35_41 rfl) ?_
    rfl
theorem bs_X1_readRules_51 (a0 : Nat) (a1 : Nat) (a2 : Int32) (a3 : Int32) (o4 : Option Value) (s0 : Int32) (h : bn_H) : bn_ev 35 51 [some (.ref a0), some (.ref a1), some (.int a2), some (.int a3), o4] [.int s0] h = if 0 ≤ s0 then (bn_gd (bn_isC h a1 0) (bn_cV (bn_ev 1 0 [some (.ref a1), some (.int a2), some (.int a3), some (.int s0)] [] h) (fun h1 => some (some (.int 1), h1)))) else (some (some (.int 0), h)) := by
  refine Eq.trans (be_istore (ls' := [some (.ref a0), some (.ref a1), some (.int a2), some (.int a3), some (.int s0)]) bd_35_51 (Nat.le_of_ble_eq_true rfl) rfl) ?_
  refine Eq.trans (be_iload bd_35_53 rfl) ?_
  refine Eq.trans (be_if_ge (t := 60) bd_35_55 rfl) ?_
  refine bn_if_c ?_ ?_
  · refine Eq.trans (be_aload_n bd_35_60 rfl) ?_
    refine Eq.trans (be_iload_n bd_35_61 rfl) ?_
    refine Eq.trans (be_iload_n bd_35_62 rfl) ?_
    refine Eq.trans (be_iload bd_35_63 rfl) ?_
    refine Eq.trans (be_virtV (as := [.int s0, .int a3, .int a2]) (rr := []) (en := [some (.ref a1), some (.int a2), some (.int a3), some (.int s0)]) bd_35_65 bm_1_43 rfl rfl rfl ⟨Nat.le_of_ble_eq_true rfl, Nat.le_of_ble_eq_true rfl, Nat.le_of_ble_eq_true rfl, Nat.le_of_ble_eq_true rfl⟩ rfl) ?_
    refine bn_gd_c (bn_cV_c fun h1 => ?_)
    refine Eq.trans (be_iconst (v := 1) bd_35_68 (by decide)) ?_
    exact be_z0 bd_35_69 rfl (Or.inr rfl)
  · refine Eq.trans (be_iconst (v := 0) bd_35_58 (by decide)) ?_
    exact be_z0 bd_35_59 rfl (Or.inl rfl)
theorem bs_X1_readPerson_0 (a0 : Nat) (a1 : Nat) (h : bn_H) : bn_ev 36 0 [some (.ref a0), some (.ref a1), none] [] h = bn_gI h a1 0 5 (fun x1 => if 5 ≤ x1 then (some (some (.int 0), h)) else (bn_gd (bn_isC h a0 1) (bn_cI (bn_ev 41 0 [some (.ref a0), some (.int 80)] [] h) (fun x3 h2 => if x3 = 0 then (some (some (.int 0), h2)) else (bn_gI h2 a1 0 1 (fun x4 => bn_gd (bn_isC h2 a0 1) (bn_cI (bn_ev 43 0 [some (.ref a0), some (.int 0), some (.int x4), none] [] h2) (fun x6 h5 => if 0 ≤ x6 then (bn_gd (bn_isC h5 a1 0) (bn_cV (bn_ev 2 0 [some (.ref a1), some (.int x6)] [] h5) (fun h7 => some (some (.int 1), h7)))) else (some (some (.int 0), h5)))))))))) := by
  refine Eq.trans (be_aload_n bd_36_0 rfl) ?_
  refine Eq.trans (be_getI bd_36_1 bf_1_49 rfl) ?_
  refine bn_gI_c fun x1 => ?_
  refine Eq.trans (be_iconst (v := 5) bd_36_4 (by decide)) ?_
  refine Eq.trans (be_icmp_ge (t := 17) bd_36_5 rfl) ?_
  refine bn_if_c ?_ ?_
  · refine Eq.trans (be_iconst (v := 0) bd_36_17 (by decide)) ?_
    exact be_z0 bd_36_18 rfl (Or.inl rfl)
  · refine Eq.trans (be_aload_n bd_36_8 rfl) ?_
    refine Eq.trans (be_bipush (v := 80) bd_36_9 (by decide)) ?_
    refine Eq.trans (be_virtI (as := [.int 80]) (rr := []) (en := [some (.ref a0), some (.int 80)]) bd_36_11 bm_1_36 rfl rfl rfl ⟨Nat.le_of_ble_eq_true rfl, Nat.le_of_ble_eq_true rfl, Nat.le_of_ble_eq_true rfl, Nat.le_of_ble_eq_true rfl⟩ (Or.inr rfl)) ?_
    refine bn_gd_c (bn_cI_c fun x3 h2 => ?_)
    refine Eq.trans (be_if_ne (t := 19) bd_36_14 rfl) ?_
    refine bn_if_c ?_ ?_
    · refine Eq.trans (be_iconst (v := 0) bd_36_17 (by decide)) ?_
      exact be_z0 bd_36_18 rfl (Or.inl rfl)
    · refine Eq.trans (be_aload_n bd_36_19 rfl) ?_
      refine Eq.trans (be_iconst (v := 0) bd_36_20 (by decide)) ?_
      refine Eq.trans (be_aload_n bd_36_21 rfl) ?_
      refine Eq.trans (be_getI bd_36_22 bf_1_52 rfl) ?_
      refine bn_gI_c fun x4 => ?_
      refine Eq.trans (be_virtI (as := [.int x4, .int 0]) (rr := []) (en := [some (.ref a0), some (.int 0), some (.int x4), none]) bd_36_25 bm_1_39 rfl rfl rfl ⟨Nat.le_of_ble_eq_true rfl, Nat.le_of_ble_eq_true rfl, Nat.le_of_ble_eq_true rfl, Nat.le_of_ble_eq_true rfl⟩ (Or.inl rfl)) ?_
      refine bn_gd_c (bn_cI_c fun x6 h5 => ?_)
      refine Eq.trans (be_istore_n (ls' := [some (.ref a0), some (.ref a1), some (.int x6)]) bd_36_28 (Nat.le_of_ble_eq_true rfl) rfl) ?_
      refine Eq.trans (be_iload_n bd_36_29 rfl) ?_
      refine Eq.trans (be_if_ge (t := 35) bd_36_30 rfl) ?_
      refine bn_if_c ?_ ?_
      · refine Eq.trans (be_aload_n bd_36_35 rfl) ?_
        refine Eq.trans (be_iload_n bd_36_36 rfl) ?_
        refine Eq.trans (be_virtV (as := [.int x6]) (rr := []) (en := [some (.ref a1), some (.int x6)]) bd_36_37 bm_1_55 rfl rfl rfl ⟨Nat.le_of_ble_eq_true rfl, Nat.le_of_ble_eq_true rfl, Nat.le_of_ble_eq_true rfl, Nat.le_of_ble_eq_true rfl⟩ rfl) ?_
        refine bn_gd_c (bn_cV_c fun h7 => ?_)
        refine Eq.trans (be_iconst (v := 1) bd_36_40 (by decide)) ?_
        exact be_z0 bd_36_41 rfl (Or.inr rfl)
      · refine Eq.trans (be_iconst (v := 0) bd_36_33 (by decide)) ?_
        exact be_z0 bd_36_34 rfl (Or.inl rfl)
theorem bs_X1_readLoaf_0 (a0 : Nat) (a1 : Nat) (h : bn_H) : bn_ev 37 0 [some (.ref a0), some (.ref a1), none, none, none] [] h = bn_gI h a1 0 5 (fun x1 => if x1 = 0 then (some (some (.int 0), h)) else (bn_gI h a1 0 9 (fun x2 => if 10 ≤ x2 then (some (some (.int 0), h)) else (bn_gd (bn_isC h a0 1) (bn_cI (bn_ev 41 0 [some (.ref a0), some (.int 76)] [] h) (fun x4 h3 => if x4 = 0 then (some (some (.int 0), h3)) else (bn_gd (bn_isC h3 a0 1) (bn_cI (bn_ev 38 0 [some (.ref a0), some (.ref a1), none, none] [] h3) (fun x6 h5 => if 0 ≤ x6 then (bn_gI h5 a1 0 5 (fun x7 => bn_gd (bn_isC h5 a0 1) (bn_cI (bn_ev 43 0 [some (.ref a0), some (.int 0), some (.int (x7 - 1)), none] [] h5) (fun x9 h8 => bn_ev 37 53 [some (.ref a0), some (.ref a1), some (.int x6), none, none] [.int x9] h8)))) else (bn_ev 37 53 [some (.ref a0), some (.ref a1), some (.int x6), none, none] [.int (-9)] h5)))))))))) := by
  refine Eq.trans (be_aload_n bd_37_0 rfl) ?_
  refine Eq.trans (be_getI bd_37_1 bf_1_49 rfl) ?_
  refine bn_gI_c fun x1 => ?_
  refine Eq.trans (be_if_eq (t := 25) bd_37_4 rfl) ?_
  refine bn_if_c ?_ ?_
  · refine Eq.trans (be_iconst (v := 0) bd_37_25 (by decide)) ?_
    exact be_z0 bd_37_26 rfl (Or.inl rfl)
  · refine Eq.trans (be_aload_n bd_37_7 rfl) ?_
    refine Eq.trans (be_getI bd_37_8 bf_1_59 rfl) ?_
    refine bn_gI_c fun x2 => ?_
    refine Eq.trans (be_bipush (v := 10) bd_37_11 (by decide)) ?_
    refine Eq.trans (be_icmp_ge (t := 25) bd_37_13 rfl) ?_
    refine bn_if_c ?_ ?_
    · refine Eq.trans (be_iconst (v := 0) bd_37_25 (by decide)) ?_
      exact be_z0 bd_37_26 rfl (Or.inl rfl)
    · refine Eq.trans (be_aload_n bd_37_16 rfl) ?_
      refine Eq.trans (be_bipush (v := 76) bd_37_17 (by decide)) ?_
      refine Eq.trans (be_virtI (as := [.int 76]) (rr := []) (en := [some (.ref a0), some (.int 76)]) bd_37_19 bm_1_36 rfl rfl rfl ⟨Nat.le_of_ble_eq_true rfl, Nat.le_of_ble_eq_true rfl, Nat.le_of_ble_eq_true rfl, Nat.le_of_ble_eq_true rfl⟩ (Or.inr rfl)) ?_
      refine bn_gd_c (bn_cI_c fun x4 h3 => ?_)
      refine Eq.trans (be_if_ne (t := 27) bd_37_22 rfl) ?_
      refine bn_if_c ?_ ?_
      · refine Eq.trans (be_iconst (v := 0) bd_37_25 (by decide)) ?_
        exact be_z0 bd_37_26 rfl (Or.inl rfl)
      · refine Eq.trans (be_aload_n bd_37_27 rfl) ?_
        refine Eq.trans (be_aload_n bd_37_28 rfl) ?_
        refine Eq.trans (be_virtI (as := [.ref a1]) (rr := []) (en := [some (.ref a0), some (.ref a1), none, none]) bd_37_29 bm_1_62 rfl rfl rfl ⟨Nat.le_of_ble_eq_true rfl, Nat.le_of_ble_eq_true rfl, Nat.le_of_ble_eq_true rfl, Nat.le_of_ble_eq_true rfl⟩ (Or.inl rfl)) ?_
        refine bn_gd_c (bn_cI_c fun x6 h5 => ?_)
        refine Eq.trans (be_istore_n (ls' := [some (.ref a0), some (.ref a1), some (.int x6), none, none]) bd_37_32 (Nat.le_of_ble_eq_true rfl) rfl) ?_
        refine Eq.trans (be_iload_n bd_37_33 rfl) ?_
        refine Eq.trans (be_if_ge (t := 42) bd_37_34 rfl) ?_
        refine bn_if_c ?_ ?_
        · refine Eq.trans (be_aload_n bd_37_42 rfl) ?_
          refine Eq.trans (be_iconst (v := 0) bd_37_43 (by decide)) ?_
          refine Eq.trans (be_aload_n bd_37_44 rfl) ?_
          refine Eq.trans (be_getI bd_37_45 bf_1_49 rfl) ?_
          refine bn_gI_c fun x7 => ?_
          refine Eq.trans (be_iconst (v := 1) bd_37_48 (by decide)) ?_
          refine Eq.trans (be_isub bd_37_49) ?_
          refine Eq.trans (be_virtI (as := [.int (x7 - 1), .int 0]) (rr := []) (en := [some (.ref a0), some (.int 0), some (.int (x7 - 1)), none]) bd_37_50 bm_1_39 rfl rfl rfl ⟨Nat.le_of_ble_eq_true rfl, Nat.le_of_ble_eq_true rfl, Nat.le_of_ble_eq_true rfl, Nat.le_of_ble_eq_true rfl⟩ (Or.inl rfl)) ?_
          refine bn_gd_c (bn_cI_c fun x9 h8 => ?_)
          rfl
        · refine Eq.trans (be_bipush (v := (-9)) bd_37_37 (by decide)) ?_
          refine Eq.trans (be_goto (t := 53) bd_37_39 rfl) ?_
          rfl
theorem bs_X1_readLoaf_53 (a0 : Nat) (a1 : Nat) (a2 : Int32) (o3 : Option Value) (o4 : Option Value) (s0 : Int32) (h : bn_H) : bn_ev 37 53 [some (.ref a0), some (.ref a1), some (.int a2), o3, o4] [.int s0] h = if 0 ≤ s0 then (bn_gd (bn_isC h a0 1) (bn_cI (bn_ev 43 0 [some (.ref a0), some (.int 0), some (.int 9), none] [] h) (fun x2 h1 => bn_ev 37 70 [some (.ref a0), some (.ref a1), some (.int a2), some (.int s0), o4] [.int x2] h1))) else (bn_ev 37 70 [some (.ref a0), some (.ref a1), some (.int a2), some (.int s0), o4] [.int (-9)] h) := by
  refine Eq.trans (be_istore_n (ls' := [some (.ref a0), some (.ref a1), some (.int a2), some (.int s0), o4]) bd_37_53 (Nat.le_of_ble_eq_true rfl) rfl) ?_
  refine Eq.trans (be_iload_n bd_37_54 rfl) ?_
  refine Eq.trans (be_if_ge (t := 63) bd_37_55 rfl) ?_
  refine bn_if_c ?_ ?_
  · refine Eq.trans (be_aload_n bd_37_63 rfl) ?_
    refine Eq.trans (be_iconst (v := 0) bd_37_64 (by decide)) ?_
    refine Eq.trans (be_bipush (v := 9) bd_37_65 (by decide)) ?_
    refine Eq.trans (be_virtI (as := [.int 9, .int 0]) (rr := []) (en := [some (.ref a0), some (.int 0), some (.int 9), none]) bd_37_67 bm_1_39 rfl rfl rfl ⟨Nat.le_of_ble_eq_true rfl, Nat.le_of_ble_eq_true rfl, Nat.le_of_ble_eq_true rfl, Nat.le_of_ble_eq_true rfl⟩ (Or.inl rfl)) ?_
    refine bn_gd_c (bn_cI_c fun x2 h1 => ?_)
    rfl
  · refine Eq.trans (be_bipush (v := (-9)) bd_37_58 (by decide)) ?_
    refine Eq.trans (be_goto (t := 70) bd_37_60 rfl) ?_
    rfl
theorem bs_X1_readLoaf_70 (a0 : Nat) (a1 : Nat) (a2 : Int32) (a3 : Int32) (o4 : Option Value) (s0 : Int32) (h : bn_H) : bn_ev 37 70 [some (.ref a0), some (.ref a1), some (.int a2), some (.int a3), o4] [.int s0] h = if 0 ≤ s0 then (bn_gd (bn_isC h a1 0) (bn_cV (bn_ev 3 0 [some (.ref a1), some (.int a2), some (.int a3), some (.int s0)] [] h) (fun h1 => some (some (.int 1), h1)))) else (some (some (.int 0), h)) := by
  refine Eq.trans (be_istore (ls' := [some (.ref a0), some (.ref a1), some (.int a2), some (.int a3), some (.int s0)]) bd_37_70 (Nat.le_of_ble_eq_true rfl) rfl) ?_
  refine Eq.trans (be_iload bd_37_72 rfl) ?_
  refine Eq.trans (be_if_ge (t := 79) bd_37_74 rfl) ?_
  refine bn_if_c ?_ ?_
  · refine Eq.trans (be_aload_n bd_37_79 rfl) ?_
    refine Eq.trans (be_iload_n bd_37_80 rfl) ?_
    refine Eq.trans (be_iload_n bd_37_81 rfl) ?_
    refine Eq.trans (be_iload bd_37_82 rfl) ?_
    refine Eq.trans (be_virtV (as := [.int s0, .int a3, .int a2]) (rr := []) (en := [some (.ref a1), some (.int a2), some (.int a3), some (.int s0)]) bd_37_84 bm_1_66 rfl rfl rfl ⟨Nat.le_of_ble_eq_true rfl, Nat.le_of_ble_eq_true rfl, Nat.le_of_ble_eq_true rfl, Nat.le_of_ble_eq_true rfl⟩ rfl) ?_
    refine bn_gd_c (bn_cV_c fun h1 => ?_)
    refine Eq.trans (be_iconst (v := 1) bd_37_87 (by decide)) ?_
    exact be_z0 bd_37_88 rfl (Or.inr rfl)
  · refine Eq.trans (be_iconst (v := 0) bd_37_77 (by decide)) ?_
    exact be_z0 bd_37_78 rfl (Or.inl rfl)
theorem bs_X1_readNumber_0 (a0 : Nat) (a1 : Nat) (h : bn_H) : bn_ev 38 0 [some (.ref a0), some (.ref a1), none, none] [] h = bn_gd (bn_isC h a0 1) (bn_cI (bn_ev 44 0 [some (.ref a0)] [] h) (fun x2 h1 => if x2 < 0 then (some (some (.int (-9)), h1)) else (bn_cI (bn_ev 39 0 [some (.ref a1), some (.int x2), none] [] h1) (fun x4 h3 => if x4 = 0 then (some (some (.int (-9)), h3)) else (bn_gI h3 a0 1 2 (fun x5 => (bn_pf h3 a0 1 2 (.int (x5 + 1))).bind (fun h6 => bn_gd (bn_isC h6 a0 1) (bn_cI (bn_ev 44 0 [some (.ref a0)] [] h6) (fun x8 h7 => if x8 < 0 then (some (some (.int (-9)), h7)) else (bn_cI (bn_ev 40 0 [some (.ref a1), some (.int ((10 * x2) + x8))] [] h7) (fun x10 h9 => if x10 = 0 then (some (some (.int (-9)), h9)) else (bn_gI h9 a0 1 2 (fun x11 => (bn_pf h9 a0 1 2 (.int (x11 + 1))).bind (fun h12 => some (some (.int ((10 * x2) + x8)), h12))))))))))))))) := by
  refine Eq.trans (be_aload_n bd_38_0 rfl) ?_
  refine Eq.trans (be_virtI (as := []) (rr := []) (en := [some (.ref a0)]) bd_38_1 bm_1_69 rfl rfl rfl ⟨Nat.le_of_ble_eq_true rfl, Nat.le_of_ble_eq_true rfl, Nat.le_of_ble_eq_true rfl, Nat.le_of_ble_eq_true rfl⟩ (Or.inl rfl)) ?_
  refine bn_gd_c (bn_cI_c fun x2 h1 => ?_)
  refine Eq.trans (be_istore_n (ls' := [some (.ref a0), some (.ref a1), some (.int x2), none]) bd_38_4 (Nat.le_of_ble_eq_true rfl) rfl) ?_
  refine Eq.trans (be_iload_n bd_38_5 rfl) ?_
  refine Eq.trans (be_if_lt (t := 17) bd_38_6 rfl) ?_
  refine bn_if_c ?_ ?_
  · refine Eq.trans (be_bipush (v := (-9)) bd_38_17 (by decide)) ?_
    exact be_ireturn bd_38_19 rfl
  · refine Eq.trans (be_aload_n bd_38_9 rfl) ?_
    refine Eq.trans (be_iload_n bd_38_10 rfl) ?_
    refine Eq.trans (be_statI (as := [.int x2, .ref a1]) (rr := []) (en := [some (.ref a1), some (.int x2), none]) bd_38_11 bm_1_73 rfl rfl rfl ⟨Nat.le_of_ble_eq_true rfl, Nat.le_of_ble_eq_true rfl, Nat.le_of_ble_eq_true rfl, Nat.le_of_ble_eq_true rfl⟩ (Or.inr rfl)) ?_
    refine bn_cI_c fun x4 h3 => ?_
    refine Eq.trans (be_if_ne (t := 20) bd_38_14 rfl) ?_
    refine bn_if_c ?_ ?_
    · refine Eq.trans (be_bipush (v := (-9)) bd_38_17 (by decide)) ?_
      exact be_ireturn bd_38_19 rfl
    · refine Eq.trans (be_aload_n bd_38_20 rfl) ?_
      refine Eq.trans (be_dup bd_38_21 rfl) ?_
      refine Eq.trans (be_getI bd_38_22 bf_1_19 rfl) ?_
      refine bn_gI_c fun x5 => ?_
      refine Eq.trans (be_iconst (v := 1) bd_38_25 (by decide)) ?_
      refine Eq.trans (be_iadd bd_38_26) ?_
      refine Eq.trans (be_putI bd_38_27 bf_1_19 rfl rfl) ?_
      refine bn_bd_c fun h6 => ?_
      refine Eq.trans (be_aload_n bd_38_30 rfl) ?_
      refine Eq.trans (be_virtI (as := []) (rr := []) (en := [some (.ref a0)]) bd_38_31 bm_1_69 rfl rfl rfl ⟨Nat.le_of_ble_eq_true rfl, Nat.le_of_ble_eq_true rfl, Nat.le_of_ble_eq_true rfl, Nat.le_of_ble_eq_true rfl⟩ (Or.inl rfl)) ?_
      refine bn_gd_c (bn_cI_c fun x8 h7 => ?_)
      refine Eq.trans (be_istore_n (ls' := [some (.ref a0), some (.ref a1), some (.int x2), some (.int x8)]) bd_38_34 (Nat.le_of_ble_eq_true rfl) rfl) ?_
      refine Eq.trans (be_iload_n bd_38_35 rfl) ?_
      refine Eq.trans (be_if_lt (t := 52) bd_38_36 rfl) ?_
      refine bn_if_c ?_ ?_
      · refine Eq.trans (be_bipush (v := (-9)) bd_38_52 (by decide)) ?_
        exact be_ireturn bd_38_54 rfl
      · refine Eq.trans (be_aload_n bd_38_39 rfl) ?_
        refine Eq.trans (be_bipush (v := 10) bd_38_40 (by decide)) ?_
        refine Eq.trans (be_iload_n bd_38_42 rfl) ?_
        refine Eq.trans (be_imul bd_38_43) ?_
        refine Eq.trans (be_iload_n bd_38_44 rfl) ?_
        refine Eq.trans (be_iadd bd_38_45) ?_
        refine Eq.trans (be_statI (as := [.int ((10 * x2) + x8), .ref a1]) (rr := []) (en := [some (.ref a1), some (.int ((10 * x2) + x8))]) bd_38_46 bm_1_77 rfl rfl rfl ⟨Nat.le_of_ble_eq_true rfl, Nat.le_of_ble_eq_true rfl, Nat.le_of_ble_eq_true rfl, Nat.le_of_ble_eq_true rfl⟩ (Or.inr rfl)) ?_
        refine bn_cI_c fun x10 h9 => ?_
        refine Eq.trans (be_if_ne (t := 55) bd_38_49 rfl) ?_
        refine bn_if_c ?_ ?_
        · refine Eq.trans (be_bipush (v := (-9)) bd_38_52 (by decide)) ?_
          exact be_ireturn bd_38_54 rfl
        · refine Eq.trans (be_aload_n bd_38_55 rfl) ?_
          refine Eq.trans (be_dup bd_38_56 rfl) ?_
          refine Eq.trans (be_getI bd_38_57 bf_1_19 rfl) ?_
          refine bn_gI_c fun x11 => ?_
          refine Eq.trans (be_iconst (v := 1) bd_38_60 (by decide)) ?_
          refine Eq.trans (be_iadd bd_38_61) ?_
          refine Eq.trans (be_putI bd_38_62 bf_1_19 rfl rfl) ?_
          refine bn_bd_c fun h12 => ?_
          refine Eq.trans (be_bipush (v := 10) bd_38_65 (by decide)) ?_
          refine Eq.trans (be_iload_n bd_38_67 rfl) ?_
          refine Eq.trans (be_imul bd_38_68) ?_
          refine Eq.trans (be_iload_n bd_38_69 rfl) ?_
          refine Eq.trans (be_iadd bd_38_70) ?_
          exact be_ireturn bd_38_71 rfl
theorem bs_X1_hasFreeNumber_0 (a0 : Nat) (a1 : Int32) (h : bn_H) : bn_ev 39 0 [some (.ref a0), some (.int a1), none] [] h = bn_ev 39 2 [some (.ref a0), some (.int a1), some (.int 0)] [] h := by
  refine Eq.trans (be_iconst (v := 0) bd_39_0 (by decide)) ?_
  refine Eq.trans (be_istore_n (ls' := [some (.ref a0), some (.int a1), some (.int 0)]) bd_39_1 (Nat.le_of_ble_eq_true rfl) rfl) ?_
  rfl
theorem bs_X1_hasFreeNumber_2 (a0 : Nat) (a1 : Int32) (a2 : Int32) (h : bn_H) : bn_ev 39 2 [some (.ref a0), some (.int a1), some (.int a2)] [] h = if 9 < a2 then (some (some (.int 0), h)) else (bn_cI (bn_ev 40 0 [some (.ref a0), some (.int ((10 * a1) + a2))] [] h) (fun x2 h1 => if x2 = 0 then (bn_ev 39 2 [some (.ref a0), some (.int a1), some (.int (a2 + 1))] [] h1) else (some (some (.int 1), h1)))) := by
  refine Eq.trans (be_iload_n bd_39_2 rfl) ?_
  refine Eq.trans (be_bipush (v := 9) bd_39_3 (by decide)) ?_
  refine Eq.trans (be_icmp_gt (t := 29) bd_39_5 rfl) ?_
  refine bn_if_c ?_ ?_
  · refine Eq.trans (be_iconst (v := 0) bd_39_29 (by decide)) ?_
    exact be_z0 bd_39_30 rfl (Or.inl rfl)
  · refine Eq.trans (be_aload_n bd_39_8 rfl) ?_
    refine Eq.trans (be_bipush (v := 10) bd_39_9 (by decide)) ?_
    refine Eq.trans (be_iload_n bd_39_11 rfl) ?_
    refine Eq.trans (be_imul bd_39_12) ?_
    refine Eq.trans (be_iload_n bd_39_13 rfl) ?_
    refine Eq.trans (be_iadd bd_39_14) ?_
    refine Eq.trans (be_statI (as := [.int ((10 * a1) + a2), .ref a0]) (rr := []) (en := [some (.ref a0), some (.int ((10 * a1) + a2))]) bd_39_15 bm_1_77 rfl rfl rfl ⟨Nat.le_of_ble_eq_true rfl, Nat.le_of_ble_eq_true rfl, Nat.le_of_ble_eq_true rfl, Nat.le_of_ble_eq_true rfl⟩ (Or.inr rfl)) ?_
    refine bn_cI_c fun x2 h1 => ?_
    refine Eq.trans (be_if_eq (t := 23) bd_39_18 rfl) ?_
    refine bn_if_c ?_ ?_
    · refine Eq.trans (be_iinc (v := 1) (ls' := [some (.ref a0), some (.int a1), some (.int (a2 + 1))]) bd_39_23 rfl (by decide) (Nat.le_of_ble_eq_true rfl) rfl) ?_
      refine Eq.trans (be_goto (t := 2) bd_39_26 rfl) ?_
      rfl
    · refine Eq.trans (be_iconst (v := 1) bd_39_21 (by decide)) ?_
      exact be_z0 bd_39_22 rfl (Or.inr rfl)
theorem bs_X1_isFree_0 (a0 : Nat) (a1 : Int32) (h : bn_H) : bn_ev 40 0 [some (.ref a0), some (.int a1)] [] h = if a1 < 1 then (some (some (.int 0), h)) else (bn_gd (bn_isC h a0 0) (bn_cI (bn_ev 19 0 [some (.ref a0), some (.int a1), none] [] h) (fun x2 h1 => if x2 = 0 then (some (some (.int 1), h1)) else (some (some (.int 0), h1))))) := by
  refine Eq.trans (be_iload_n bd_40_0 rfl) ?_
  refine Eq.trans (be_iconst (v := 1) bd_40_1 (by decide)) ?_
  refine Eq.trans (be_icmp_lt (t := 17) bd_40_2 rfl) ?_
  refine bn_if_c ?_ ?_
  · refine Eq.trans (be_iconst (v := 0) bd_40_17 (by decide)) ?_
    exact be_z0 bd_40_18 rfl (Or.inl rfl)
  · refine Eq.trans (be_aload_n bd_40_5 rfl) ?_
    refine Eq.trans (be_iload_n bd_40_6 rfl) ?_
    refine Eq.trans (be_virtI (as := [.int a1]) (rr := []) (en := [some (.ref a0), some (.int a1), none]) bd_40_7 bm_1_80 rfl rfl rfl ⟨Nat.le_of_ble_eq_true rfl, Nat.le_of_ble_eq_true rfl, Nat.le_of_ble_eq_true rfl, Nat.le_of_ble_eq_true rfl⟩ (Or.inr rfl)) ?_
    refine bn_gd_c (bn_cI_c fun x2 h1 => ?_)
    refine Eq.trans (be_if_ne (t := 17) bd_40_10 rfl) ?_
    refine bn_if_c ?_ ?_
    · refine Eq.trans (be_iconst (v := 1) bd_40_13 (by decide)) ?_
      refine Eq.trans (be_goto (t := 18) bd_40_14 rfl) ?_
      exact be_z0 bd_40_18 rfl (Or.inr rfl)
    · refine Eq.trans (be_iconst (v := 0) bd_40_17 (by decide)) ?_
      exact be_z0 bd_40_18 rfl (Or.inl rfl)
theorem bs_X1_readSign_0 (a0 : Nat) (a1 : Int32) (h : bn_H) : bn_ev 41 0 [some (.ref a0), some (.int a1)] [] h = bn_gd (bn_isC h a0 1) (bn_cI (bn_ev 42 0 [some (.ref a0), some (.int a1)] [] h) (fun x2 h1 => if x2 = 0 then (some (some (.int 0), h1)) else (bn_gI h1 a0 1 2 (fun x3 => (bn_pf h1 a0 1 2 (.int (x3 + 1))).bind (fun h4 => some (some (.int 1), h4)))))) := by
  refine Eq.trans (be_aload_n bd_41_0 rfl) ?_
  refine Eq.trans (be_iload_n bd_41_1 rfl) ?_
  refine Eq.trans (be_virtI (as := [.int a1]) (rr := []) (en := [some (.ref a0), some (.int a1)]) bd_41_2 bm_1_26 rfl rfl rfl ⟨Nat.le_of_ble_eq_true rfl, Nat.le_of_ble_eq_true rfl, Nat.le_of_ble_eq_true rfl, Nat.le_of_ble_eq_true rfl⟩ (Or.inr rfl)) ?_
  refine bn_gd_c (bn_cI_c fun x2 h1 => ?_)
  refine Eq.trans (be_if_ne (t := 10) bd_41_5 rfl) ?_
  refine bn_if_c ?_ ?_
  · refine Eq.trans (be_iconst (v := 0) bd_41_8 (by decide)) ?_
    exact be_z0 bd_41_9 rfl (Or.inl rfl)
  · refine Eq.trans (be_aload_n bd_41_10 rfl) ?_
    refine Eq.trans (be_dup bd_41_11 rfl) ?_
    refine Eq.trans (be_getI bd_41_12 bf_1_19 rfl) ?_
    refine bn_gI_c fun x3 => ?_
    refine Eq.trans (be_iconst (v := 1) bd_41_15 (by decide)) ?_
    refine Eq.trans (be_iadd bd_41_16) ?_
    refine Eq.trans (be_putI bd_41_17 bf_1_19 rfl rfl) ?_
    refine bn_bd_c fun h4 => ?_
    refine Eq.trans (be_iconst (v := 1) bd_41_20 (by decide)) ?_
    exact be_z0 bd_41_21 rfl (Or.inr rfl)
theorem bs_X1_isSignHere_0 (a0 : Nat) (a1 : Int32) (h : bn_H) : bn_ev 42 0 [some (.ref a0), some (.int a1)] [] h = bn_gI h a0 1 2 (fun x1 => bn_gI h a0 1 1 (fun x2 => if x2 ≤ x1 then (some (some (.int 0), h)) else (bn_gR h a0 1 0 (fun p3 => bn_gI h a0 1 2 (fun x4 => (bn_ld h p3 0 x4).bind (fun x5 => if x5 = a1 then (some (some (.int 1), h)) else (some (some (.int 0), h)))))))) := by
  refine Eq.trans (be_aload_n bd_42_0 rfl) ?_
  refine Eq.trans (be_getI bd_42_1 bf_1_19 rfl) ?_
  refine bn_gI_c fun x1 => ?_
  refine Eq.trans (be_aload_n bd_42_4 rfl) ?_
  refine Eq.trans (be_getI bd_42_5 bf_1_15 rfl) ?_
  refine bn_gI_c fun x2 => ?_
  refine Eq.trans (be_icmp_ge (t := 28) bd_42_8 rfl) ?_
  refine bn_if_c ?_ ?_
  · refine Eq.trans (be_iconst (v := 0) bd_42_28 (by decide)) ?_
    exact be_z0 bd_42_29 rfl (Or.inl rfl)
  · refine Eq.trans (be_aload_n bd_42_11 rfl) ?_
    refine Eq.trans (be_getR bd_42_12 bf_1_9 rfl (Or.inl ⟨_, rfl⟩)) ?_
    refine bn_gR_c fun p3 => ?_
    refine Eq.trans (be_aload_n bd_42_15 rfl) ?_
    refine Eq.trans (be_getI bd_42_16 bf_1_19 rfl) ?_
    refine bn_gI_c fun x4 => ?_
    refine Eq.trans (be_iaload bd_42_19) ?_
    refine bn_bd_c fun x5 => ?_
    refine Eq.trans (be_iload_n bd_42_20 rfl) ?_
    refine Eq.trans (be_icmp_ne (t := 28) bd_42_21 rfl) ?_
    refine bn_if_c ?_ ?_
    · refine Eq.trans (be_iconst (v := 1) bd_42_24 (by decide)) ?_
      refine Eq.trans (be_goto (t := 29) bd_42_25 rfl) ?_
      exact be_z0 bd_42_29 rfl (Or.inr rfl)
    · refine Eq.trans (be_iconst (v := 0) bd_42_28 (by decide)) ?_
      exact be_z0 bd_42_29 rfl (Or.inl rfl)
theorem bs_X1_readFigure_0 (a0 : Nat) (a1 : Int32) (a2 : Int32) (h : bn_H) : bn_ev 43 0 [some (.ref a0), some (.int a1), some (.int a2), none] [] h = bn_gd (bn_isC h a0 1) (bn_cI (bn_ev 44 0 [some (.ref a0)] [] h) (fun x2 h1 => if x2 < a1 then (some (some (.int (-9)), h1)) else (if x2 ≤ a2 then (bn_gI h1 a0 1 2 (fun x3 => (bn_pf h1 a0 1 2 (.int (x3 + 1))).bind (fun h4 => some (some (.int x2), h4)))) else (some (some (.int (-9)), h1))))) := by
  refine Eq.trans (be_aload_n bd_43_0 rfl) ?_
  refine Eq.trans (be_virtI (as := []) (rr := []) (en := [some (.ref a0)]) bd_43_1 bm_1_69 rfl rfl rfl ⟨Nat.le_of_ble_eq_true rfl, Nat.le_of_ble_eq_true rfl, Nat.le_of_ble_eq_true rfl, Nat.le_of_ble_eq_true rfl⟩ (Or.inl rfl)) ?_
  refine bn_gd_c (bn_cI_c fun x2 h1 => ?_)
  refine Eq.trans (be_istore_n (ls' := [some (.ref a0), some (.int a1), some (.int a2), some (.int x2)]) bd_43_4 (Nat.le_of_ble_eq_true rfl) rfl) ?_
  refine Eq.trans (be_iload_n bd_43_5 rfl) ?_
  refine Eq.trans (be_iload_n bd_43_6 rfl) ?_
  refine Eq.trans (be_icmp_lt (t := 15) bd_43_7 rfl) ?_
  refine bn_if_c ?_ ?_
  · refine Eq.trans (be_bipush (v := (-9)) bd_43_15 (by decide)) ?_
    exact be_ireturn bd_43_17 rfl
  · refine Eq.trans (be_iload_n bd_43_10 rfl) ?_
    refine Eq.trans (be_iload_n bd_43_11 rfl) ?_
    refine Eq.trans (be_icmp_le (t := 18) bd_43_12 rfl) ?_
    refine bn_if_c ?_ ?_
    · refine Eq.trans (be_aload_n bd_43_18 rfl) ?_
      refine Eq.trans (be_dup bd_43_19 rfl) ?_
      refine Eq.trans (be_getI bd_43_20 bf_1_19 rfl) ?_
      refine bn_gI_c fun x3 => ?_
      refine Eq.trans (be_iconst (v := 1) bd_43_23 (by decide)) ?_
      refine Eq.trans (be_iadd bd_43_24) ?_
      refine Eq.trans (be_putI bd_43_25 bf_1_19 rfl rfl) ?_
      refine bn_bd_c fun h4 => ?_
      refine Eq.trans (be_iload_n bd_43_28 rfl) ?_
      exact be_ireturn bd_43_29 rfl
    · refine Eq.trans (be_bipush (v := (-9)) bd_43_15 (by decide)) ?_
      exact be_ireturn bd_43_17 rfl
theorem bs_X1_figureHere_0 (a0 : Nat) (h : bn_H) : bn_ev 44 0 [some (.ref a0)] [] h = bn_gI h a0 1 2 (fun x1 => bn_gI h a0 1 1 (fun x2 => if x2 ≤ x1 then (some (some (.int (-9)), h)) else (bn_gR h a0 1 0 (fun p3 => bn_gI h a0 1 2 (fun x4 => (bn_ld h p3 0 x4).bind (fun x5 => if x5 < 48 then (some (some (.int (-9)), h)) else (bn_gR h a0 1 0 (fun p6 => bn_gI h a0 1 2 (fun x7 => (bn_ld h p6 0 x7).bind (fun x8 => if x8 ≤ 57 then (bn_gR h a0 1 0 (fun p9 => bn_gI h a0 1 2 (fun x10 => (bn_ld h p9 0 x10).bind (fun x11 => some (some (.int (x11 - 48)), h))))) else (some (some (.int (-9)), h)))))))))))) := by
  refine Eq.trans (be_aload_n bd_44_0 rfl) ?_
  refine Eq.trans (be_getI bd_44_1 bf_1_19 rfl) ?_
  refine bn_gI_c fun x1 => ?_
  refine Eq.trans (be_aload_n bd_44_4 rfl) ?_
  refine Eq.trans (be_getI bd_44_5 bf_1_15 rfl) ?_
  refine bn_gI_c fun x2 => ?_
  refine Eq.trans (be_icmp_ge (t := 39) bd_44_8 rfl) ?_
  refine bn_if_c ?_ ?_
  · refine Eq.trans (be_bipush (v := (-9)) bd_44_39 (by decide)) ?_
    exact be_ireturn bd_44_41 rfl
  · refine Eq.trans (be_aload_n bd_44_11 rfl) ?_
    refine Eq.trans (be_getR bd_44_12 bf_1_9 rfl (Or.inl ⟨_, rfl⟩)) ?_
    refine bn_gR_c fun p3 => ?_
    refine Eq.trans (be_aload_n bd_44_15 rfl) ?_
    refine Eq.trans (be_getI bd_44_16 bf_1_19 rfl) ?_
    refine bn_gI_c fun x4 => ?_
    refine Eq.trans (be_iaload bd_44_19) ?_
    refine bn_bd_c fun x5 => ?_
    refine Eq.trans (be_bipush (v := 48) bd_44_20 (by decide)) ?_
    refine Eq.trans (be_icmp_lt (t := 39) bd_44_22 rfl) ?_
    refine bn_if_c ?_ ?_
    · refine Eq.trans (be_bipush (v := (-9)) bd_44_39 (by decide)) ?_
      exact be_ireturn bd_44_41 rfl
    · refine Eq.trans (be_aload_n bd_44_25 rfl) ?_
      refine Eq.trans (be_getR bd_44_26 bf_1_9 rfl (Or.inl ⟨_, rfl⟩)) ?_
      refine bn_gR_c fun p6 => ?_
      refine Eq.trans (be_aload_n bd_44_29 rfl) ?_
      refine Eq.trans (be_getI bd_44_30 bf_1_19 rfl) ?_
      refine bn_gI_c fun x7 => ?_
      refine Eq.trans (be_iaload bd_44_33) ?_
      refine bn_bd_c fun x8 => ?_
      refine Eq.trans (be_bipush (v := 57) bd_44_34 (by decide)) ?_
      refine Eq.trans (be_icmp_le (t := 42) bd_44_36 rfl) ?_
      refine bn_if_c ?_ ?_
      · refine Eq.trans (be_aload_n bd_44_42 rfl) ?_
        refine Eq.trans (be_getR bd_44_43 bf_1_9 rfl (Or.inl ⟨_, rfl⟩)) ?_
        refine bn_gR_c fun p9 => ?_
        refine Eq.trans (be_aload_n bd_44_46 rfl) ?_
        refine Eq.trans (be_getI bd_44_47 bf_1_19 rfl) ?_
        refine bn_gI_c fun x10 => ?_
        refine Eq.trans (be_iaload bd_44_50) ?_
        refine bn_bd_c fun x11 => ?_
        refine Eq.trans (be_bipush (v := 48) bd_44_51 (by decide)) ?_
        refine Eq.trans (be_isub bd_44_53) ?_
        exact be_ireturn bd_44_54 rfl
      · refine Eq.trans (be_bipush (v := (-9)) bd_44_39 (by decide)) ?_
        exact be_ireturn bd_44_41 rfl
theorem bs_X2_write_0 (a0 : Nat) (a1 : Int32) (a2 : Int64) (h : bn_H) : bn_ev 46 0 [some (.ref a0), some (.int a1), some (.long a2), none, none] [] h = if a1 < 1 then (some (some (.int (-2)), h)) else (if a1 ≤ 8 then (bn_gR h a0 2 0 (fun p1 => bn_gI h p1 1 1 (fun x2 => if (x2 + a1) ≤ 80 then (bn_ev 46 36 [some (.ref a0), some (.int a1), some (.long a2), none, some (.int (a1 - 1))] [] h) else (some (some (.int (-4)), h))))) else (some (some (.int (-2)), h))) := by
  refine Eq.trans (be_iload_n bd_46_0 rfl) ?_
  refine Eq.trans (be_iconst (v := 1) bd_46_1 (by decide)) ?_
  refine Eq.trans (be_icmp_lt (t := 11) bd_46_2 rfl) ?_
  refine bn_if_c ?_ ?_
  · refine Eq.trans (be_bipush (v := (-2)) bd_46_11 (by decide)) ?_
    exact be_ireturn bd_46_13 rfl
  · refine Eq.trans (be_iload_n bd_46_5 rfl) ?_
    refine Eq.trans (be_bipush (v := 8) bd_46_6 (by decide)) ?_
    refine Eq.trans (be_icmp_le (t := 14) bd_46_8 rfl) ?_
    refine bn_if_c ?_ ?_
    · refine Eq.trans (be_aload_n bd_46_14 rfl) ?_
      refine Eq.trans (be_getR bd_46_15 bf_2_12 rfl (Or.inr ⟨_, rfl⟩)) ?_
      refine bn_gR_c fun p1 => ?_
      refine Eq.trans (be_getI bd_46_18 bf_2_44 rfl) ?_
      refine bn_gI_c fun x2 => ?_
      refine Eq.trans (be_iload_n bd_46_21 rfl) ?_
      refine Eq.trans (be_iadd bd_46_22) ?_
      refine Eq.trans (be_bipush (v := 80) bd_46_23 (by decide)) ?_
      refine Eq.trans (be_icmp_le (t := 31) bd_46_25 rfl) ?_
      refine bn_if_c ?_ ?_
      · refine Eq.trans (be_iload_n bd_46_31 rfl) ?_
        refine Eq.trans (be_iconst (v := 1) bd_46_32 (by decide)) ?_
        refine Eq.trans (be_isub bd_46_33) ?_
        refine Eq.trans (be_istore (ls' := [some (.ref a0), some (.int a1), some (.long a2), none, some (.int (a1 - 1))]) bd_46_34 (Nat.le_of_ble_eq_true rfl) rfl) ?_
        rfl
      · refine Eq.trans (be_bipush (v := (-4)) bd_46_28 (by decide)) ?_
        exact be_ireturn bd_46_30 rfl
    · refine Eq.trans (be_bipush (v := (-2)) bd_46_11 (by decide)) ?_
      exact be_ireturn bd_46_13 rfl
theorem bs_X2_write_36 (a0 : Nat) (a1 : Int32) (a2 : Int64) (a4 : Int32) (h : bn_H) : bn_ev 46 36 [some (.ref a0), some (.int a1), some (.long a2), none, some (.int a4)] [] h = if a4 < 0 then (bn_gR h a0 2 0 (fun p1 => bn_gI h p1 1 1 (fun x2 => some (some (.int x2), h)))) else (bn_gR h a0 2 0 (fun p3 => bn_gd (bn_isC h p3 1) (bn_cV (bn_ev 33 0 [some (.ref p3), some (.int (((bn_lushr a2 (8 * a4)).toInt32) &&& 255))] [] h) (fun h4 => bn_ev 46 36 [some (.ref a0), some (.int a1), some (.long a2), none, some (.int (a4 + (-1)))] [] h4)))) := by
  refine Eq.trans (be_iload bd_46_36 rfl) ?_
  refine Eq.trans (be_if_lt (t := 66) bd_46_38 rfl) ?_
  refine bn_if_c ?_ ?_
  · refine Eq.trans (be_aload_n bd_46_66 rfl) ?_
    refine Eq.trans (be_getR bd_46_67 bf_2_12 rfl (Or.inr ⟨_, rfl⟩)) ?_
    refine bn_gR_c fun p1 => ?_
    refine Eq.trans (be_getI bd_46_70 bf_2_44 rfl) ?_
    refine bn_gI_c fun x2 => ?_
    exact be_ireturn bd_46_73 rfl
  · refine Eq.trans (be_aload_n bd_46_41 rfl) ?_
    refine Eq.trans (be_getR bd_46_42 bf_2_12 rfl (Or.inr ⟨_, rfl⟩)) ?_
    refine bn_gR_c fun p3 => ?_
    refine Eq.trans (be_lload_n bd_46_45 rfl) ?_
    refine Eq.trans (be_bipush (v := 8) bd_46_46 (by decide)) ?_
    refine Eq.trans (be_iload bd_46_48 rfl) ?_
    refine Eq.trans (be_imul bd_46_50) ?_
    refine Eq.trans (be_lushr bd_46_51) ?_
    refine Eq.trans (be_l2i bd_46_52) ?_
    refine Eq.trans (be_sipush (v := 255) bd_46_53 (by decide)) ?_
    refine Eq.trans (be_iand bd_46_56) ?_
    refine Eq.trans (be_virtV (as := [.int (((bn_lushr a2 (8 * a4)).toInt32) &&& 255)]) (rr := []) (en := [some (.ref p3), some (.int (((bn_lushr a2 (8 * a4)).toInt32) &&& 255))]) bd_46_57 bm_2_47 rfl rfl rfl ⟨Nat.le_of_ble_eq_true rfl, Nat.le_of_ble_eq_true rfl, Nat.le_of_ble_eq_true rfl, Nat.le_of_ble_eq_true rfl⟩ rfl) ?_
    refine bn_gd_c (bn_cV_c fun h4 => ?_)
    refine Eq.trans (be_iinc (v := (-1)) (ls' := [some (.ref a0), some (.int a1), some (.long a2), none, some (.int (a4 + (-1)))]) bd_46_60 rfl (by decide) (Nat.le_of_ble_eq_true rfl) rfl) ?_
    refine Eq.trans (be_goto (t := 36) bd_46_63 rfl) ?_
    rfl
theorem bs_X2_wipe_0 (a0 : Nat) (h : bn_H) : bn_ev 47 0 [some (.ref a0), none] [] h = bn_gR h a0 2 0 (fun p1 => bn_gI h p1 1 1 (fun x2 => bn_gR h a0 2 0 (fun p3 => (bn_pf h p3 1 1 (.int 0)).bind (fun h4 => some (some (.int x2), h4))))) := by
  refine Eq.trans (be_aload_n bd_47_0 rfl) ?_
  refine Eq.trans (be_getR bd_47_1 bf_2_12 rfl (Or.inr ⟨_, rfl⟩)) ?_
  refine bn_gR_c fun p1 => ?_
  refine Eq.trans (be_getI bd_47_4 bf_2_44 rfl) ?_
  refine bn_gI_c fun x2 => ?_
  refine Eq.trans (be_istore_n (ls' := [some (.ref a0), some (.int x2)]) bd_47_7 (Nat.le_of_ble_eq_true rfl) rfl) ?_
  refine Eq.trans (be_aload_n bd_47_8 rfl) ?_
  refine Eq.trans (be_getR bd_47_9 bf_2_12 rfl (Or.inr ⟨_, rfl⟩)) ?_
  refine bn_gR_c fun p3 => ?_
  refine Eq.trans (be_iconst (v := 0) bd_47_12 (by decide)) ?_
  refine Eq.trans (be_putI bd_47_13 bf_2_44 rfl rfl) ?_
  refine bn_bd_c fun h4 => ?_
  refine Eq.trans (be_iload_n bd_47_16 rfl) ?_
  exact be_ireturn bd_47_17 rfl
theorem bs_X2_fault_0 (a0 : Nat) (h : bn_H) : bn_ev 48 0 [some (.ref a0)] [] h = bn_gR h a0 2 0 (fun p1 => bn_gR h a0 2 2 (fun p2 => bn_gd (bn_isC h p1 1) (bn_cI (bn_ev 34 0 [some (.ref p1), some (.ref p2), none, none] [] h) (fun x4 h3 => some (some (.int x4), h3))))) := by
  refine Eq.trans (be_aload_n bd_48_0 rfl) ?_
  refine Eq.trans (be_getR bd_48_1 bf_2_12 rfl (Or.inr ⟨_, rfl⟩)) ?_
  refine bn_gR_c fun p1 => ?_
  refine Eq.trans (be_aload_n bd_48_4 rfl) ?_
  refine Eq.trans (be_getR bd_48_5 bf_2_23 rfl (Or.inr ⟨_, rfl⟩)) ?_
  refine bn_gR_c fun p2 => ?_
  refine Eq.trans (be_virtI (as := [.ref p2]) (rr := []) (en := [some (.ref p1), some (.ref p2), none, none]) bd_48_8 bm_2_51 rfl rfl rfl ⟨Nat.le_of_ble_eq_true rfl, Nat.le_of_ble_eq_true rfl, Nat.le_of_ble_eq_true rfl, Nat.le_of_ble_eq_true rfl⟩ (Or.inl rfl)) ?_
  refine bn_gd_c (bn_cI_c fun x4 h3 => ?_)
  exact be_ireturn bd_48_11 rfl
theorem bs_X2_siege_0 (a0 : Nat) (h : bn_H) : bn_ev 49 0 [some (.ref a0), none] [] h = bn_gR h a0 2 0 (fun p1 => bn_gR h a0 2 2 (fun p2 => bn_gd (bn_isC h p1 1) (bn_cI (bn_ev 34 0 [some (.ref p1), some (.ref p2), none, none] [] h) (fun x4 h3 => if x4 = (-9) then (bn_gR h3 a0 2 2 (fun p5 => bn_gR h3 a0 2 1 (fun p6 => bn_gJ h3 p6 0 4 (fun y7 => (bn_pf h3 p5 0 4 (.long y7)).bind (fun h8 => bn_gR h8 a0 2 1 (fun p9 => bn_gR h8 a0 2 2 (fun p10 => bn_gd (bn_isC h8 p9 0) (bn_cV (bn_ev 4 0 [some (.ref p9), some (.ref p10), none] [] h8) (fun h11 => bn_gd (bn_isC h11 a0 2) (bn_cV (bn_ev 70 0 [some (.ref a0)] [] h11) (fun h13 => bn_ev 49 50 [some (.ref a0), some (.int 0)] [] h13))))))))))) else (some (some (.int (-3)), h3)))))) := by
  refine Eq.trans (be_aload_n bd_49_0 rfl) ?_
  refine Eq.trans (be_getR bd_49_1 bf_2_12 rfl (Or.inr ⟨_, rfl⟩)) ?_
  refine bn_gR_c fun p1 => ?_
  refine Eq.trans (be_aload_n bd_49_4 rfl) ?_
  refine Eq.trans (be_getR bd_49_5 bf_2_23 rfl (Or.inr ⟨_, rfl⟩)) ?_
  refine bn_gR_c fun p2 => ?_
  refine Eq.trans (be_virtI (as := [.ref p2]) (rr := []) (en := [some (.ref p1), some (.ref p2), none, none]) bd_49_8 bm_2_51 rfl rfl rfl ⟨Nat.le_of_ble_eq_true rfl, Nat.le_of_ble_eq_true rfl, Nat.le_of_ble_eq_true rfl, Nat.le_of_ble_eq_true rfl⟩ (Or.inl rfl)) ?_
  refine bn_gd_c (bn_cI_c fun x4 h3 => ?_)
  refine Eq.trans (be_bipush (v := (-9)) bd_49_11 (by decide)) ?_
  refine Eq.trans (be_icmp_eq (t := 19) bd_49_13 rfl) ?_
  refine bn_if_c ?_ ?_
  · refine Eq.trans (be_aload_n bd_49_19 rfl) ?_
    refine Eq.trans (be_getR bd_49_20 bf_2_23 rfl (Or.inr ⟨_, rfl⟩)) ?_
    refine bn_gR_c fun p5 => ?_
    refine Eq.trans (be_aload_n bd_49_23 rfl) ?_
    refine Eq.trans (be_getR bd_49_24 bf_2_19 rfl (Or.inr ⟨_, rfl⟩)) ?_
    refine bn_gR_c fun p6 => ?_
    refine Eq.trans (be_getJ bd_49_27 bf_2_55 rfl) ?_
    refine bn_gJ_c fun y7 => ?_
    refine Eq.trans (be_putJ bd_49_30 bf_2_55 rfl rfl) ?_
    refine bn_bd_c fun h8 => ?_
    refine Eq.trans (be_aload_n bd_49_33 rfl) ?_
    refine Eq.trans (be_getR bd_49_34 bf_2_19 rfl (Or.inr ⟨_, rfl⟩)) ?_
    refine bn_gR_c fun p9 => ?_
    refine Eq.trans (be_aload_n bd_49_37 rfl) ?_
    refine Eq.trans (be_getR bd_49_38 bf_2_23 rfl (Or.inr ⟨_, rfl⟩)) ?_
    refine bn_gR_c fun p10 => ?_
    refine Eq.trans (be_virtV (as := [.ref p10]) (rr := []) (en := [some (.ref p9), some (.ref p10), none]) bd_49_41 bm_2_59 rfl rfl rfl ⟨Nat.le_of_ble_eq_true rfl, Nat.le_of_ble_eq_true rfl, Nat.le_of_ble_eq_true rfl, Nat.le_of_ble_eq_true rfl⟩ rfl) ?_
    refine bn_gd_c (bn_cV_c fun h11 => ?_)
    refine Eq.trans (be_aload_n bd_49_44 rfl) ?_
    refine Eq.trans (be_virtV (as := []) (rr := []) (en := [some (.ref a0)]) bd_49_45 bm_2_63 rfl rfl rfl ⟨Nat.le_of_ble_eq_true rfl, Nat.le_of_ble_eq_true rfl, Nat.le_of_ble_eq_true rfl, Nat.le_of_ble_eq_true rfl⟩ rfl) ?_
    refine bn_gd_c (bn_cV_c fun h13 => ?_)
    refine Eq.trans (be_iconst (v := 0) bd_49_48 (by decide)) ?_
    refine Eq.trans (be_istore_n (ls' := [some (.ref a0), some (.int 0)]) bd_49_49 (Nat.le_of_ble_eq_true rfl) rfl) ?_
    rfl
  · refine Eq.trans (be_bipush (v := (-3)) bd_49_16 (by decide)) ?_
    exact be_ireturn bd_49_18 rfl
theorem bs_X2_siege_50 (a0 : Nat) (a1 : Int32) (h : bn_H) : bn_ev 49 50 [some (.ref a0), some (.int a1)] [] h = if 2 ≤ a1 then (bn_gR h a0 2 1 (fun p1 => bn_gI h p1 0 5 (fun x2 => bn_gR h a0 2 1 (fun p3 => bn_gI h p3 0 9 (fun x4 => some (some (.int ((100 * x2) + x4)), h)))))) else (bn_gR h a0 2 7 (fun p5 => (bn_sd h p5 1 a1 (vp_nar .boolean 0)).bind (fun h6 => bn_ev 49 50 [some (.ref a0), some (.int (a1 + 1))] [] h6))) := by
  refine Eq.trans (be_iload_n bd_49_50 rfl) ?_
  refine Eq.trans (be_iconst (v := 2) bd_49_51 (by decide)) ?_
  refine Eq.trans (be_icmp_ge (t := 68) bd_49_52 rfl) ?_
  refine bn_if_c ?_ ?_
  · refine Eq.trans (be_bipush (v := 100) bd_49_68 (by decide)) ?_
    refine Eq.trans (be_aload_n bd_49_70 rfl) ?_
    refine Eq.trans (be_getR bd_49_71 bf_2_19 rfl (Or.inr ⟨_, rfl⟩)) ?_
    refine bn_gR_c fun p1 => ?_
    refine Eq.trans (be_getI bd_49_74 bf_2_66 rfl) ?_
    refine bn_gI_c fun x2 => ?_
    refine Eq.trans (be_imul bd_49_77) ?_
    refine Eq.trans (be_aload_n bd_49_78 rfl) ?_
    refine Eq.trans (be_getR bd_49_79 bf_2_19 rfl (Or.inr ⟨_, rfl⟩)) ?_
    refine bn_gR_c fun p3 => ?_
    refine Eq.trans (be_getI bd_49_82 bf_2_69 rfl) ?_
    refine bn_gI_c fun x4 => ?_
    refine Eq.trans (be_iadd bd_49_85) ?_
    exact be_ireturn bd_49_86 rfl
  · refine Eq.trans (be_aload_n bd_49_55 rfl) ?_
    refine Eq.trans (be_getR bd_49_56 bf_2_40 rfl (Or.inl ⟨_, rfl⟩)) ?_
    refine bn_gR_c fun p5 => ?_
    refine Eq.trans (be_iload_n bd_49_59 rfl) ?_
    refine Eq.trans (be_iconst (v := 0) bd_49_60 (by decide)) ?_
    refine Eq.trans (be_bastore bd_49_61) ?_
    refine bn_bd_c fun h6 => ?_
    refine Eq.trans (be_iinc (v := 1) (ls' := [some (.ref a0), some (.int (a1 + 1))]) bd_49_62 rfl (by decide) (Nat.le_of_ble_eq_true rfl) rfl) ?_
    refine Eq.trans (be_goto (t := 50) bd_49_65 rfl) ?_
    rfl
theorem bs_X2_person_0 (a0 : Nat) (a1 : Int32) (a2 : Int32) (h : bn_H) : bn_ev 50 0 [some (.ref a0), some (.int a1), some (.int a2)] [] h = bn_gR h a0 2 1 (fun p1 => bn_gd (bn_isC h p1 0) (bn_cI (bn_ev 5 0 [some (.ref p1), some (.int a1)] [] h) (fun x3 h2 => if x3 = 0 then (some (some (.int (-1)), h2)) else (if a2 = 0 then (bn_gR h2 a0 2 1 (fun p4 => bn_gR h2 p4 0 6 (fun p5 => (bn_ld h2 p5 0 a1).bind (fun x6 => some (some (.int x6), h2))))) else (if a2 = 1 then (bn_gR h2 a0 2 1 (fun p7 => bn_gd (bn_isC h2 p7 0) (bn_cI (bn_ev 7 0 [some (.ref p7), some (.int a1)] [] h2) (fun x9 h8 => some (some (.int (if x9 = 0 then 0 else 1)), h8))))) else (if a2 = 2 then (bn_gR h2 a0 2 1 (fun p10 => bn_gR h2 p10 0 7 (fun p11 => (bn_ld h2 p11 1 a1).bind (fun x12 => some (some (.int (if x12 = 0 then 0 else 1)), h2))))) else (if a2 = 3 then (bn_gR h2 a0 2 1 (fun p13 => bn_gd (bn_isC h2 p13 0) (bn_cI (bn_ev 13 0 [some (.ref p13), some (.int a1), none, none] [] h2) (fun x15 h14 => some (some (.int x15), h14))))) else (if a2 = 4 then (bn_gR h2 a0 2 1 (fun p16 => bn_gR h2 p16 0 8 (fun p17 => (bn_ld h2 p17 0 a1).bind (fun x18 => some (some (.int x18), h2))))) else (some (some (.int (-2)), h2)))))))))) := by
  refine Eq.trans (be_aload_n bd_50_0 rfl) ?_
  refine Eq.trans (be_getR bd_50_1 bf_2_19 rfl (Or.inr ⟨_, rfl⟩)) ?_
  refine bn_gR_c fun p1 => ?_
  refine Eq.trans (be_iload_n bd_50_4 rfl) ?_
  refine Eq.trans (be_virtI (as := [.int a1]) (rr := []) (en := [some (.ref p1), some (.int a1)]) bd_50_5 bm_2_72 rfl rfl rfl ⟨Nat.le_of_ble_eq_true rfl, Nat.le_of_ble_eq_true rfl, Nat.le_of_ble_eq_true rfl, Nat.le_of_ble_eq_true rfl⟩ (Or.inr rfl)) ?_
  refine bn_gd_c (bn_cI_c fun x3 h2 => ?_)
  refine Eq.trans (be_if_ne (t := 13) bd_50_8 rfl) ?_
  refine bn_if_c ?_ ?_
  · refine Eq.trans (be_iconst (v := (-1)) bd_50_11 (by decide)) ?_
    exact be_ireturn bd_50_12 rfl
  · refine Eq.trans (be_iload_n bd_50_13 rfl) ?_
    refine bn_sw (x := a2) (v := 0) (fun he => ?_) (fun hn0 => ?_)
    · rw [he]
      refine Eq.trans (be_tabin (off := 34) (t := 48) bd_50_14 (by decide) rfl rfl) ?_
      refine Eq.trans (be_aload_n bd_50_48 rfl) ?_
      refine Eq.trans (be_getR bd_50_49 bf_2_19 rfl (Or.inr ⟨_, rfl⟩)) ?_
      refine bn_gR_c fun p4 => ?_
      refine Eq.trans (be_getR bd_50_52 bf_2_76 rfl (Or.inl ⟨_, rfl⟩)) ?_
      refine bn_gR_c fun p5 => ?_
      refine Eq.trans (be_iload_n bd_50_55 rfl) ?_
      refine Eq.trans (be_iaload bd_50_56) ?_
      refine bn_bd_c fun x6 => ?_
      exact be_ireturn bd_50_57 rfl
    refine bn_sw (x := a2) (v := 1) (fun he => ?_) (fun hn1 => ?_)
    · rw [he]
      refine Eq.trans (be_tabin (off := 44) (t := 58) bd_50_14 (by decide) rfl rfl) ?_
      refine Eq.trans (be_aload_n bd_50_58 rfl) ?_
      refine Eq.trans (be_getR bd_50_59 bf_2_19 rfl (Or.inr ⟨_, rfl⟩)) ?_
      refine bn_gR_c fun p7 => ?_
      refine Eq.trans (be_iload_n bd_50_62 rfl) ?_
      refine Eq.trans (be_virtI (as := [.int a1]) (rr := []) (en := [some (.ref p7), some (.int a1)]) bd_50_63 bm_2_80 rfl rfl rfl ⟨Nat.le_of_ble_eq_true rfl, Nat.le_of_ble_eq_true rfl, Nat.le_of_ble_eq_true rfl, Nat.le_of_ble_eq_true rfl⟩ (Or.inr rfl)) ?_
      refine bn_gd_c (bn_cI_c fun x9 h8 => ?_)
      refine Eq.trans (be_if_eq (t := 73) bd_50_66 rfl) ?_
      refine Eq.trans (bn_dia (J := 74) (a := 0) (b := 1) (by
      refine Eq.trans (be_iconst (v := 0) bd_50_73 (by decide)) ?_
      rfl) (by
      refine Eq.trans (be_iconst (v := 1) bd_50_69 (by decide)) ?_
      refine Eq.trans (be_goto (t := 74) bd_50_70 rfl) ?_
      rfl)) ?_
      exact be_ireturn bd_50_74 rfl
    refine bn_sw (x := a2) (v := 2) (fun he => ?_) (fun hn2 => ?_)
    · rw [he]
      refine Eq.trans (be_tabin (off := 61) (t := 75) bd_50_14 (by decide) rfl rfl) ?_
      refine Eq.trans (be_aload_n bd_50_75 rfl) ?_
      refine Eq.trans (be_getR bd_50_76 bf_2_19 rfl (Or.inr ⟨_, rfl⟩)) ?_
      refine bn_gR_c fun p10 => ?_
      refine Eq.trans (be_getR bd_50_79 bf_2_83 rfl (Or.inl ⟨_, rfl⟩)) ?_
      refine bn_gR_c fun p11 => ?_
      refine Eq.trans (be_iload_n bd_50_82 rfl) ?_
      refine Eq.trans (be_baload bd_50_83) ?_
      refine bn_bd_c fun x12 => ?_
      refine Eq.trans (be_if_eq (t := 91) bd_50_84 rfl) ?_
      refine Eq.trans (bn_dia (J := 92) (a := 0) (b := 1) (by
      refine Eq.trans (be_iconst (v := 0) bd_50_91 (by decide)) ?_
      rfl) (by
      refine Eq.trans (be_iconst (v := 1) bd_50_87 (by decide)) ?_
      refine Eq.trans (be_goto (t := 92) bd_50_88 rfl) ?_
      rfl)) ?_
      exact be_ireturn bd_50_92 rfl
    refine bn_sw (x := a2) (v := 3) (fun he => ?_) (fun hn3 => ?_)
    · rw [he]
      refine Eq.trans (be_tabin (off := 79) (t := 93) bd_50_14 (by decide) rfl rfl) ?_
      refine Eq.trans (be_aload_n bd_50_93 rfl) ?_
      refine Eq.trans (be_getR bd_50_94 bf_2_19 rfl (Or.inr ⟨_, rfl⟩)) ?_
      refine bn_gR_c fun p13 => ?_
      refine Eq.trans (be_iload_n bd_50_97 rfl) ?_
      refine Eq.trans (be_virtI (as := [.int a1]) (rr := []) (en := [some (.ref p13), some (.int a1), none, none]) bd_50_98 bm_2_86 rfl rfl rfl ⟨Nat.le_of_ble_eq_true rfl, Nat.le_of_ble_eq_true rfl, Nat.le_of_ble_eq_true rfl, Nat.le_of_ble_eq_true rfl⟩ (Or.inl rfl)) ?_
      refine bn_gd_c (bn_cI_c fun x15 h14 => ?_)
      exact be_ireturn bd_50_101 rfl
    refine bn_sw (x := a2) (v := 4) (fun he => ?_) (fun hn4 => ?_)
    · rw [he]
      refine Eq.trans (be_tabin (off := 88) (t := 102) bd_50_14 (by decide) rfl rfl) ?_
      refine Eq.trans (be_aload_n bd_50_102 rfl) ?_
      refine Eq.trans (be_getR bd_50_103 bf_2_19 rfl (Or.inr ⟨_, rfl⟩)) ?_
      refine bn_gR_c fun p16 => ?_
      refine Eq.trans (be_getR bd_50_106 bf_2_90 rfl (Or.inl ⟨_, rfl⟩)) ?_
      refine bn_gR_c fun p17 => ?_
      refine Eq.trans (be_iload_n bd_50_109 rfl) ?_
      refine Eq.trans (be_iaload bd_50_110) ?_
      refine bn_bd_c fun x18 => ?_
      exact be_ireturn bd_50_111 rfl
    have q0 : (a2).toInt ≠ 0 := fun q => hn0 (Int32.toInt_inj.mp (q.trans (by decide)))
    have q1 : (a2).toInt ≠ 1 := fun q => hn1 (Int32.toInt_inj.mp (q.trans (by decide)))
    have q2 : (a2).toInt ≠ 2 := fun q => hn2 (Int32.toInt_inj.mp (q.trans (by decide)))
    have q3 : (a2).toInt ≠ 3 := fun q => hn3 (Int32.toInt_inj.mp (q.trans (by decide)))
    have q4 : (a2).toInt ≠ 4 := fun q => hn4 (Int32.toInt_inj.mp (q.trans (by decide)))
    refine Eq.trans (be_tabout (t := 112) bd_50_14 (by omega) rfl) ?_
    refine Eq.trans (be_bipush (v := (-2)) bd_50_112 (by decide)) ?_
    exact be_ireturn bd_50_114 rfl
theorem bs_X2_loaf_0 (a0 : Nat) (a1 : Int32) (a2 : Int32) (h : bn_H) : bn_ev 51 0 [some (.ref a0), some (.int a1), some (.int a2)] [] h = bn_gR h a0 2 1 (fun p1 => bn_gd (bn_isC h p1 0) (bn_cI (bn_ev 6 0 [some (.ref p1), some (.int a1)] [] h) (fun x3 h2 => if x3 = 0 then (some (some (.int (-1)), h2)) else (if a2 = 0 then (bn_gR h2 a0 2 1 (fun p4 => bn_gR h2 p4 0 10 (fun p5 => (bn_ld h2 p5 0 a1).bind (fun x6 => some (some (.int x6), h2))))) else (if a2 = 1 then (bn_gR h2 a0 2 1 (fun p7 => bn_gR h2 p7 0 11 (fun p8 => (bn_ld h2 p8 0 a1).bind (fun x9 => some (some (.int x9), h2))))) else (if a2 = 2 then (bn_gR h2 a0 2 1 (fun p10 => bn_gR h2 p10 0 12 (fun p11 => (bn_ld h2 p11 0 a1).bind (fun x12 => some (some (.int x12), h2))))) else (if a2 = 3 then (bn_gR h2 a0 2 1 (fun p13 => bn_gd (bn_isC h2 p13 0) (bn_cI (bn_ev 8 0 [some (.ref p13), some (.int a1)] [] h2) (fun x15 h14 => some (some (.int (if x15 = 0 then 0 else 1)), h14))))) else (if a2 = 4 then (bn_gR h2 a0 2 1 (fun p16 => bn_gR h2 p16 0 13 (fun p17 => (bn_ld h2 p17 0 a1).bind (fun x18 => some (some (.int x18), h2))))) else (if a2 = 5 then (bn_gR h2 a0 2 1 (fun p19 => bn_gR h2 p19 0 14 (fun p20 => (bn_ld h2 p20 0 a1).bind (fun x21 => some (some (.int x21), h2))))) else (some (some (.int (-2)), h2))))))))))) := by
  refine Eq.trans (be_aload_n bd_51_0 rfl) ?_
  refine Eq.trans (be_getR bd_51_1 bf_2_19 rfl (Or.inr ⟨_, rfl⟩)) ?_
  refine bn_gR_c fun p1 => ?_
  refine Eq.trans (be_iload_n bd_51_4 rfl) ?_
  refine Eq.trans (be_virtI (as := [.int a1]) (rr := []) (en := [some (.ref p1), some (.int a1)]) bd_51_5 bm_2_93 rfl rfl rfl ⟨Nat.le_of_ble_eq_true rfl, Nat.le_of_ble_eq_true rfl, Nat.le_of_ble_eq_true rfl, Nat.le_of_ble_eq_true rfl⟩ (Or.inr rfl)) ?_
  refine bn_gd_c (bn_cI_c fun x3 h2 => ?_)
  refine Eq.trans (be_if_ne (t := 13) bd_51_8 rfl) ?_
  refine bn_if_c ?_ ?_
  · refine Eq.trans (be_iconst (v := (-1)) bd_51_11 (by decide)) ?_
    exact be_ireturn bd_51_12 rfl
  · refine Eq.trans (be_iload_n bd_51_13 rfl) ?_
    refine bn_sw (x := a2) (v := 0) (fun he => ?_) (fun hn0 => ?_)
    · rw [he]
      refine Eq.trans (be_tabin (off := 38) (t := 52) bd_51_14 (by decide) rfl rfl) ?_
      refine Eq.trans (be_aload_n bd_51_52 rfl) ?_
      refine Eq.trans (be_getR bd_51_53 bf_2_19 rfl (Or.inr ⟨_, rfl⟩)) ?_
      refine bn_gR_c fun p4 => ?_
      refine Eq.trans (be_getR bd_51_56 bf_2_96 rfl (Or.inl ⟨_, rfl⟩)) ?_
      refine bn_gR_c fun p5 => ?_
      refine Eq.trans (be_iload_n bd_51_59 rfl) ?_
      refine Eq.trans (be_iaload bd_51_60) ?_
      refine bn_bd_c fun x6 => ?_
      exact be_ireturn bd_51_61 rfl
    refine bn_sw (x := a2) (v := 1) (fun he => ?_) (fun hn1 => ?_)
    · rw [he]
      refine Eq.trans (be_tabin (off := 48) (t := 62) bd_51_14 (by decide) rfl rfl) ?_
      refine Eq.trans (be_aload_n bd_51_62 rfl) ?_
      refine Eq.trans (be_getR bd_51_63 bf_2_19 rfl (Or.inr ⟨_, rfl⟩)) ?_
      refine bn_gR_c fun p7 => ?_
      refine Eq.trans (be_getR bd_51_66 bf_2_99 rfl (Or.inl ⟨_, rfl⟩)) ?_
      refine bn_gR_c fun p8 => ?_
      refine Eq.trans (be_iload_n bd_51_69 rfl) ?_
      refine Eq.trans (be_iaload bd_51_70) ?_
      refine bn_bd_c fun x9 => ?_
      exact be_ireturn bd_51_71 rfl
    refine bn_sw (x := a2) (v := 2) (fun he => ?_) (fun hn2 => ?_)
    · rw [he]
      refine Eq.trans (be_tabin (off := 58) (t := 72) bd_51_14 (by decide) rfl rfl) ?_
      refine Eq.trans (be_aload_n bd_51_72 rfl) ?_
      refine Eq.trans (be_getR bd_51_73 bf_2_19 rfl (Or.inr ⟨_, rfl⟩)) ?_
      refine bn_gR_c fun p10 => ?_
      refine Eq.trans (be_getR bd_51_76 bf_2_102 rfl (Or.inl ⟨_, rfl⟩)) ?_
      refine bn_gR_c fun p11 => ?_
      refine Eq.trans (be_iload_n bd_51_79 rfl) ?_
      refine Eq.trans (be_iaload bd_51_80) ?_
      refine bn_bd_c fun x12 => ?_
      exact be_ireturn bd_51_81 rfl
    refine bn_sw (x := a2) (v := 3) (fun he => ?_) (fun hn3 => ?_)
    · rw [he]
      refine Eq.trans (be_tabin (off := 68) (t := 82) bd_51_14 (by decide) rfl rfl) ?_
      refine Eq.trans (be_aload_n bd_51_82 rfl) ?_
      refine Eq.trans (be_getR bd_51_83 bf_2_19 rfl (Or.inr ⟨_, rfl⟩)) ?_
      refine bn_gR_c fun p13 => ?_
      refine Eq.trans (be_iload_n bd_51_86 rfl) ?_
      refine Eq.trans (be_virtI (as := [.int a1]) (rr := []) (en := [some (.ref p13), some (.int a1)]) bd_51_87 bm_2_105 rfl rfl rfl ⟨Nat.le_of_ble_eq_true rfl, Nat.le_of_ble_eq_true rfl, Nat.le_of_ble_eq_true rfl, Nat.le_of_ble_eq_true rfl⟩ (Or.inr rfl)) ?_
      refine bn_gd_c (bn_cI_c fun x15 h14 => ?_)
      refine Eq.trans (be_if_eq (t := 97) bd_51_90 rfl) ?_
      refine Eq.trans (bn_dia (J := 98) (a := 0) (b := 1) (by
      refine Eq.trans (be_iconst (v := 0) bd_51_97 (by decide)) ?_
      rfl) (by
      refine Eq.trans (be_iconst (v := 1) bd_51_93 (by decide)) ?_
      refine Eq.trans (be_goto (t := 98) bd_51_94 rfl) ?_
      rfl)) ?_
      exact be_ireturn bd_51_98 rfl
    refine bn_sw (x := a2) (v := 4) (fun he => ?_) (fun hn4 => ?_)
    · rw [he]
      refine Eq.trans (be_tabin (off := 85) (t := 99) bd_51_14 (by decide) rfl rfl) ?_
      refine Eq.trans (be_aload_n bd_51_99 rfl) ?_
      refine Eq.trans (be_getR bd_51_100 bf_2_19 rfl (Or.inr ⟨_, rfl⟩)) ?_
      refine bn_gR_c fun p16 => ?_
      refine Eq.trans (be_getR bd_51_103 bf_2_108 rfl (Or.inl ⟨_, rfl⟩)) ?_
      refine bn_gR_c fun p17 => ?_
      refine Eq.trans (be_iload_n bd_51_106 rfl) ?_
      refine Eq.trans (be_iaload bd_51_107) ?_
      refine bn_bd_c fun x18 => ?_
      exact be_ireturn bd_51_108 rfl
    refine bn_sw (x := a2) (v := 5) (fun he => ?_) (fun hn5 => ?_)
    · rw [he]
      refine Eq.trans (be_tabin (off := 95) (t := 109) bd_51_14 (by decide) rfl rfl) ?_
      refine Eq.trans (be_aload_n bd_51_109 rfl) ?_
      refine Eq.trans (be_getR bd_51_110 bf_2_19 rfl (Or.inr ⟨_, rfl⟩)) ?_
      refine bn_gR_c fun p19 => ?_
      refine Eq.trans (be_getR bd_51_113 bf_2_111 rfl (Or.inl ⟨_, rfl⟩)) ?_
      refine bn_gR_c fun p20 => ?_
      refine Eq.trans (be_iload_n bd_51_116 rfl) ?_
      refine Eq.trans (be_iaload bd_51_117) ?_
      refine bn_bd_c fun x21 => ?_
      exact be_ireturn bd_51_118 rfl
    have q0 : (a2).toInt ≠ 0 := fun q => hn0 (Int32.toInt_inj.mp (q.trans (by decide)))
    have q1 : (a2).toInt ≠ 1 := fun q => hn1 (Int32.toInt_inj.mp (q.trans (by decide)))
    have q2 : (a2).toInt ≠ 2 := fun q => hn2 (Int32.toInt_inj.mp (q.trans (by decide)))
    have q3 : (a2).toInt ≠ 3 := fun q => hn3 (Int32.toInt_inj.mp (q.trans (by decide)))
    have q4 : (a2).toInt ≠ 4 := fun q => hn4 (Int32.toInt_inj.mp (q.trans (by decide)))
    have q5 : (a2).toInt ≠ 5 := fun q => hn5 (Int32.toInt_inj.mp (q.trans (by decide)))
    refine Eq.trans (be_tabout (t := 119) bd_51_14 (by omega) rfl) ?_
    refine Eq.trans (be_bipush (v := (-2)) bd_51_119 (by decide)) ?_
    exact be_ireturn bd_51_121 rfl
theorem bs_X2_may_0 (a0 : Nat) (a1 : Int32) (a2 : Int32) (h : bn_H) : bn_ev 52 0 [some (.ref a0), some (.int a1), some (.int a2)] [] h = bn_gR h a0 2 1 (fun p1 => bn_gd (bn_isC h p1 0) (bn_cI (bn_ev 5 0 [some (.ref p1), some (.int a1)] [] h) (fun x3 h2 => if x3 = 0 then (some (some (.int (-1)), h2)) else (bn_gR h2 a0 2 1 (fun p4 => bn_gd (bn_isC h2 p4 0) (bn_cI (bn_ev 6 0 [some (.ref p4), some (.int a2)] [] h2) (fun x6 h5 => if x6 = 0 then (some (some (.int (-1)), h5)) else (bn_gR h5 a0 2 1 (fun p7 => bn_gd (bn_isC h5 p7 0) (bn_cI (bn_ev 22 0 [some (.ref p7), some (.int a1), some (.int a2)] [] h5) (fun x9 h8 => some (some (.int (if x9 = 0 then 0 else 1)), h8)))))))))))) := by
  refine Eq.trans (be_aload_n bd_52_0 rfl) ?_
  refine Eq.trans (be_getR bd_52_1 bf_2_19 rfl (Or.inr ⟨_, rfl⟩)) ?_
  refine bn_gR_c fun p1 => ?_
  refine Eq.trans (be_iload_n bd_52_4 rfl) ?_
  refine Eq.trans (be_virtI (as := [.int a1]) (rr := []) (en := [some (.ref p1), some (.int a1)]) bd_52_5 bm_2_72 rfl rfl rfl ⟨Nat.le_of_ble_eq_true rfl, Nat.le_of_ble_eq_true rfl, Nat.le_of_ble_eq_true rfl, Nat.le_of_ble_eq_true rfl⟩ (Or.inr rfl)) ?_
  refine bn_gd_c (bn_cI_c fun x3 h2 => ?_)
  refine Eq.trans (be_if_eq (t := 22) bd_52_8 rfl) ?_
  refine bn_if_c ?_ ?_
  · refine Eq.trans (be_iconst (v := (-1)) bd_52_22 (by decide)) ?_
    exact be_ireturn bd_52_23 rfl
  · refine Eq.trans (be_aload_n bd_52_11 rfl) ?_
    refine Eq.trans (be_getR bd_52_12 bf_2_19 rfl (Or.inr ⟨_, rfl⟩)) ?_
    refine bn_gR_c fun p4 => ?_
    refine Eq.trans (be_iload_n bd_52_15 rfl) ?_
    refine Eq.trans (be_virtI (as := [.int a2]) (rr := []) (en := [some (.ref p4), some (.int a2)]) bd_52_16 bm_2_93 rfl rfl rfl ⟨Nat.le_of_ble_eq_true rfl, Nat.le_of_ble_eq_true rfl, Nat.le_of_ble_eq_true rfl, Nat.le_of_ble_eq_true rfl⟩ (Or.inr rfl)) ?_
    refine bn_gd_c (bn_cI_c fun x6 h5 => ?_)
    refine Eq.trans (be_if_ne (t := 24) bd_52_19 rfl) ?_
    refine bn_if_c ?_ ?_
    · refine Eq.trans (be_iconst (v := (-1)) bd_52_22 (by decide)) ?_
      exact be_ireturn bd_52_23 rfl
    · refine Eq.trans (be_aload_n bd_52_24 rfl) ?_
      refine Eq.trans (be_getR bd_52_25 bf_2_19 rfl (Or.inr ⟨_, rfl⟩)) ?_
      refine bn_gR_c fun p7 => ?_
      refine Eq.trans (be_iload_n bd_52_28 rfl) ?_
      refine Eq.trans (be_iload_n bd_52_29 rfl) ?_
      refine Eq.trans (be_virtI (as := [.int a2, .int a1]) (rr := []) (en := [some (.ref p7), some (.int a1), some (.int a2)]) bd_52_30 bm_2_114 rfl rfl rfl ⟨Nat.le_of_ble_eq_true rfl, Nat.le_of_ble_eq_true rfl, Nat.le_of_ble_eq_true rfl, Nat.le_of_ble_eq_true rfl⟩ (Or.inr rfl)) ?_
      refine bn_gd_c (bn_cI_c fun x9 h8 => ?_)
      refine Eq.trans (be_if_eq (t := 40) bd_52_33 rfl) ?_
      refine Eq.trans (bn_dia (J := 41) (a := 0) (b := 1) (by
      refine Eq.trans (be_iconst (v := 0) bd_52_40 (by decide)) ?_
      rfl) (by
      refine Eq.trans (be_iconst (v := 1) bd_52_36 (by decide)) ?_
      refine Eq.trans (be_goto (t := 41) bd_52_37 rfl) ?_
      rfl)) ?_
      exact be_ireturn bd_52_41 rfl
theorem bs_X2_eat_0 (a0 : Nat) (a1 : Int32) (a2 : Int32) (h : bn_H) : bn_ev 53 0 [some (.ref a0), some (.int a1), some (.int a2)] [] h = bn_gR h a0 2 1 (fun p1 => bn_gd (bn_isC h p1 0) (bn_cI (bn_ev 5 0 [some (.ref p1), some (.int a1)] [] h) (fun x3 h2 => if x3 = 0 then (some (some (.int (-1)), h2)) else (bn_gR h2 a0 2 1 (fun p4 => bn_gd (bn_isC h2 p4 0) (bn_cI (bn_ev 6 0 [some (.ref p4), some (.int a2)] [] h2) (fun x6 h5 => if x6 = 0 then (some (some (.int (-1)), h5)) else (bn_gR h5 a0 2 1 (fun p7 => bn_gd (bn_isC h5 p7 0) (bn_cI (bn_ev 22 0 [some (.ref p7), some (.int a1), some (.int a2)] [] h5) (fun x9 h8 => if x9 = 0 then (some (some (.int (-3)), h8)) else (bn_gd (bn_isC h8 a0 2) (bn_cV (bn_ev 69 0 [some (.ref a0)] [] h8) (fun h10 => bn_gR h10 a0 2 1 (fun p12 => bn_gd (bn_isC h10 p12 0) (bn_cV (bn_ev 24 0 [some (.ref p12), some (.int a1), some (.int a2)] [] h10) (fun h13 => bn_gR h13 a0 2 1 (fun p15 => bn_gR h13 p15 0 10 (fun p16 => (bn_ld h13 p16 0 a2).bind (fun x17 => some (some (.int x17), h13))))))))))))))))))))) := by
  refine Eq.trans (be_aload_n bd_53_0 rfl) ?_
  refine Eq.trans (be_getR bd_53_1 bf_2_19 rfl (Or.inr ⟨_, rfl⟩)) ?_
  refine bn_gR_c fun p1 => ?_
  refine Eq.trans (be_iload_n bd_53_4 rfl) ?_
  refine Eq.trans (be_virtI (as := [.int a1]) (rr := []) (en := [some (.ref p1), some (.int a1)]) bd_53_5 bm_2_72 rfl rfl rfl ⟨Nat.le_of_ble_eq_true rfl, Nat.le_of_ble_eq_true rfl, Nat.le_of_ble_eq_true rfl, Nat.le_of_ble_eq_true rfl⟩ (Or.inr rfl)) ?_
  refine bn_gd_c (bn_cI_c fun x3 h2 => ?_)
  refine Eq.trans (be_if_eq (t := 22) bd_53_8 rfl) ?_
  refine bn_if_c ?_ ?_
  · refine Eq.trans (be_iconst (v := (-1)) bd_53_22 (by decide)) ?_
    exact be_ireturn bd_53_23 rfl
  · refine Eq.trans (be_aload_n bd_53_11 rfl) ?_
    refine Eq.trans (be_getR bd_53_12 bf_2_19 rfl (Or.inr ⟨_, rfl⟩)) ?_
    refine bn_gR_c fun p4 => ?_
    refine Eq.trans (be_iload_n bd_53_15 rfl) ?_
    refine Eq.trans (be_virtI (as := [.int a2]) (rr := []) (en := [some (.ref p4), some (.int a2)]) bd_53_16 bm_2_93 rfl rfl rfl ⟨Nat.le_of_ble_eq_true rfl, Nat.le_of_ble_eq_true rfl, Nat.le_of_ble_eq_true rfl, Nat.le_of_ble_eq_true rfl⟩ (Or.inr rfl)) ?_
    refine bn_gd_c (bn_cI_c fun x6 h5 => ?_)
    refine Eq.trans (be_if_ne (t := 24) bd_53_19 rfl) ?_
    refine bn_if_c ?_ ?_
    · refine Eq.trans (be_iconst (v := (-1)) bd_53_22 (by decide)) ?_
      exact be_ireturn bd_53_23 rfl
    · refine Eq.trans (be_aload_n bd_53_24 rfl) ?_
      refine Eq.trans (be_getR bd_53_25 bf_2_19 rfl (Or.inr ⟨_, rfl⟩)) ?_
      refine bn_gR_c fun p7 => ?_
      refine Eq.trans (be_iload_n bd_53_28 rfl) ?_
      refine Eq.trans (be_iload_n bd_53_29 rfl) ?_
      refine Eq.trans (be_virtI (as := [.int a2, .int a1]) (rr := []) (en := [some (.ref p7), some (.int a1), some (.int a2)]) bd_53_30 bm_2_114 rfl rfl rfl ⟨Nat.le_of_ble_eq_true rfl, Nat.le_of_ble_eq_true rfl, Nat.le_of_ble_eq_true rfl, Nat.le_of_ble_eq_true rfl⟩ (Or.inr rfl)) ?_
      refine bn_gd_c (bn_cI_c fun x9 h8 => ?_)
      refine Eq.trans (be_if_ne (t := 39) bd_53_33 rfl) ?_
      refine bn_if_c ?_ ?_
      · refine Eq.trans (be_bipush (v := (-3)) bd_53_36 (by decide)) ?_
        exact be_ireturn bd_53_38 rfl
      · refine Eq.trans (be_aload_n bd_53_39 rfl) ?_
        refine Eq.trans (be_virtV (as := []) (rr := []) (en := [some (.ref a0)]) bd_53_40 bm_2_118 rfl rfl rfl ⟨Nat.le_of_ble_eq_true rfl, Nat.le_of_ble_eq_true rfl, Nat.le_of_ble_eq_true rfl, Nat.le_of_ble_eq_true rfl⟩ rfl) ?_
        refine bn_gd_c (bn_cV_c fun h10 => ?_)
        refine Eq.trans (be_aload_n bd_53_43 rfl) ?_
        refine Eq.trans (be_getR bd_53_44 bf_2_19 rfl (Or.inr ⟨_, rfl⟩)) ?_
        refine bn_gR_c fun p12 => ?_
        refine Eq.trans (be_iload_n bd_53_47 rfl) ?_
        refine Eq.trans (be_iload_n bd_53_48 rfl) ?_
        refine Eq.trans (be_virtV (as := [.int a2, .int a1]) (rr := []) (en := [some (.ref p12), some (.int a1), some (.int a2)]) bd_53_49 bm_2_121 rfl rfl rfl ⟨Nat.le_of_ble_eq_true rfl, Nat.le_of_ble_eq_true rfl, Nat.le_of_ble_eq_true rfl, Nat.le_of_ble_eq_true rfl⟩ rfl) ?_
        refine bn_gd_c (bn_cV_c fun h13 => ?_)
        refine Eq.trans (be_aload_n bd_53_52 rfl) ?_
        refine Eq.trans (be_getR bd_53_53 bf_2_19 rfl (Or.inr ⟨_, rfl⟩)) ?_
        refine bn_gR_c fun p15 => ?_
        refine Eq.trans (be_getR bd_53_56 bf_2_96 rfl (Or.inl ⟨_, rfl⟩)) ?_
        refine bn_gR_c fun p16 => ?_
        refine Eq.trans (be_iload_n bd_53_59 rfl) ?_
        refine Eq.trans (be_iaload bd_53_60) ?_
        refine bn_bd_c fun x17 => ?_
        exact be_ireturn bd_53_61 rfl
theorem bs_X2_give_0 (a0 : Nat) (a1 : Int32) (a2 : Int32) (h : bn_H) : bn_ev 54 0 [some (.ref a0), some (.int a1), some (.int a2), none] [] h = bn_gR h a0 2 1 (fun p1 => bn_gd (bn_isC h p1 0) (bn_cI (bn_ev 6 0 [some (.ref p1), some (.int a1)] [] h) (fun x3 h2 => if x3 = 0 then (some (some (.int (-1)), h2)) else (if a2 = 10 then (bn_ev 54 30 [some (.ref a0), some (.int a1), some (.int a2), none] [] h2) else (bn_gR h2 a0 2 1 (fun p4 => bn_gd (bn_isC h2 p4 0) (bn_cI (bn_ev 5 0 [some (.ref p4), some (.int a2)] [] h2) (fun x6 h5 => if x6 = 0 then (some (some (.int (-1)), h5)) else (bn_ev 54 30 [some (.ref a0), some (.int a1), some (.int a2), none] [] h5))))))))) := by
  refine Eq.trans (be_aload_n bd_54_0 rfl) ?_
  refine Eq.trans (be_getR bd_54_1 bf_2_19 rfl (Or.inr ⟨_, rfl⟩)) ?_
  refine bn_gR_c fun p1 => ?_
  refine Eq.trans (be_iload_n bd_54_4 rfl) ?_
  refine Eq.trans (be_virtI (as := [.int a1]) (rr := []) (en := [some (.ref p1), some (.int a1)]) bd_54_5 bm_2_93 rfl rfl rfl ⟨Nat.le_of_ble_eq_true rfl, Nat.le_of_ble_eq_true rfl, Nat.le_of_ble_eq_true rfl, Nat.le_of_ble_eq_true rfl⟩ (Or.inr rfl)) ?_
  refine bn_gd_c (bn_cI_c fun x3 h2 => ?_)
  refine Eq.trans (be_if_eq (t := 28) bd_54_8 rfl) ?_
  refine bn_if_c ?_ ?_
  · refine Eq.trans (be_iconst (v := (-1)) bd_54_28 (by decide)) ?_
    exact be_ireturn bd_54_29 rfl
  · refine Eq.trans (be_iload_n bd_54_11 rfl) ?_
    refine Eq.trans (be_bipush (v := 10) bd_54_12 (by decide)) ?_
    refine Eq.trans (be_icmp_eq (t := 30) bd_54_14 rfl) ?_
    refine bn_if_c ?_ ?_
    · rfl
    · refine Eq.trans (be_aload_n bd_54_17 rfl) ?_
      refine Eq.trans (be_getR bd_54_18 bf_2_19 rfl (Or.inr ⟨_, rfl⟩)) ?_
      refine bn_gR_c fun p4 => ?_
      refine Eq.trans (be_iload_n bd_54_21 rfl) ?_
      refine Eq.trans (be_virtI (as := [.int a2]) (rr := []) (en := [some (.ref p4), some (.int a2)]) bd_54_22 bm_2_72 rfl rfl rfl ⟨Nat.le_of_ble_eq_true rfl, Nat.le_of_ble_eq_true rfl, Nat.le_of_ble_eq_true rfl, Nat.le_of_ble_eq_true rfl⟩ (Or.inr rfl)) ?_
      refine bn_gd_c (bn_cI_c fun x6 h5 => ?_)
      refine Eq.trans (be_if_ne (t := 30) bd_54_25 rfl) ?_
      refine bn_if_c ?_ ?_
      · refine Eq.trans (be_iconst (v := (-1)) bd_54_28 (by decide)) ?_
        exact be_ireturn bd_54_29 rfl
      · rfl
theorem bs_X2_give_30 (a0 : Nat) (a1 : Int32) (a2 : Int32) (o3 : Option Value) (h : bn_H) : bn_ev 54 30 [some (.ref a0), some (.int a1), some (.int a2), o3] [] h = bn_gR h a0 2 1 (fun p1 => bn_gR h p1 0 11 (fun p2 => (bn_ld h p2 0 a1).bind (fun x3 => if x3 = 20 then (some (some (.int (-3)), h)) else (if x3 = a2 then (some (some (.int (-3)), h)) else (if a2 = 10 then (bn_ev 54 71 [some (.ref a0), some (.int a1), some (.int a2), some (.int x3)] [] h) else (bn_gR h a0 2 1 (fun p4 => bn_gd (bn_isC h p4 0) (bn_cI (bn_ev 7 0 [some (.ref p4), some (.int a2)] [] h) (fun x6 h5 => if x6 = 0 then (some (some (.int (-3)), h5)) else (bn_ev 54 71 [some (.ref a0), some (.int a1), some (.int a2), some (.int x3)] [] h5)))))))))) := by
  refine Eq.trans (be_aload_n bd_54_30 rfl) ?_
  refine Eq.trans (be_getR bd_54_31 bf_2_19 rfl (Or.inr ⟨_, rfl⟩)) ?_
  refine bn_gR_c fun p1 => ?_
  refine Eq.trans (be_getR bd_54_34 bf_2_99 rfl (Or.inl ⟨_, rfl⟩)) ?_
  refine bn_gR_c fun p2 => ?_
  refine Eq.trans (be_iload_n bd_54_37 rfl) ?_
  refine Eq.trans (be_iaload bd_54_38) ?_
  refine bn_bd_c fun x3 => ?_
  refine Eq.trans (be_istore_n (ls' := [some (.ref a0), some (.int a1), some (.int a2), some (.int x3)]) bd_54_39 (Nat.le_of_ble_eq_true rfl) rfl) ?_
  refine Eq.trans (be_iload_n bd_54_40 rfl) ?_
  refine Eq.trans (be_bipush (v := 20) bd_54_41 (by decide)) ?_
  refine Eq.trans (be_icmp_eq (t := 68) bd_54_43 rfl) ?_
  refine bn_if_c ?_ ?_
  · refine Eq.trans (be_bipush (v := (-3)) bd_54_68 (by decide)) ?_
    exact be_ireturn bd_54_70 rfl
  · refine Eq.trans (be_iload_n bd_54_46 rfl) ?_
    refine Eq.trans (be_iload_n bd_54_47 rfl) ?_
    refine Eq.trans (be_icmp_eq (t := 68) bd_54_48 rfl) ?_
    refine bn_if_c ?_ ?_
    · refine Eq.trans (be_bipush (v := (-3)) bd_54_68 (by decide)) ?_
      exact be_ireturn bd_54_70 rfl
    · refine Eq.trans (be_iload_n bd_54_51 rfl) ?_
      refine Eq.trans (be_bipush (v := 10) bd_54_52 (by decide)) ?_
      refine Eq.trans (be_icmp_eq (t := 71) bd_54_54 rfl) ?_
      refine bn_if_c ?_ ?_
      · rfl
      · refine Eq.trans (be_aload_n bd_54_57 rfl) ?_
        refine Eq.trans (be_getR bd_54_58 bf_2_19 rfl (Or.inr ⟨_, rfl⟩)) ?_
        refine bn_gR_c fun p4 => ?_
        refine Eq.trans (be_iload_n bd_54_61 rfl) ?_
        refine Eq.trans (be_virtI (as := [.int a2]) (rr := []) (en := [some (.ref p4), some (.int a2)]) bd_54_62 bm_2_80 rfl rfl rfl ⟨Nat.le_of_ble_eq_true rfl, Nat.le_of_ble_eq_true rfl, Nat.le_of_ble_eq_true rfl, Nat.le_of_ble_eq_true rfl⟩ (Or.inr rfl)) ?_
        refine bn_gd_c (bn_cI_c fun x6 h5 => ?_)
        refine Eq.trans (be_if_ne (t := 71) bd_54_65 rfl) ?_
        refine bn_if_c ?_ ?_
        · refine Eq.trans (be_bipush (v := (-3)) bd_54_68 (by decide)) ?_
          exact be_ireturn bd_54_70 rfl
        · rfl
theorem bs_X2_give_71 (a0 : Nat) (a1 : Int32) (a2 : Int32) (a3 : Int32) (h : bn_H) : bn_ev 54 71 [some (.ref a0), some (.int a1), some (.int a2), some (.int a3)] [] h = bn_gd (bn_isC h a0 2) (bn_cV (bn_ev 69 0 [some (.ref a0)] [] h) (fun h1 => bn_gR h1 a0 2 1 (fun p3 => bn_gR h1 p3 0 11 (fun p4 => (bn_sd h1 p4 0 a1 a2).bind (fun h5 => some (some (.int a3), h5)))))) := by
  refine Eq.trans (be_aload_n bd_54_71 rfl) ?_
  refine Eq.trans (be_virtV (as := []) (rr := []) (en := [some (.ref a0)]) bd_54_72 bm_2_118 rfl rfl rfl ⟨Nat.le_of_ble_eq_true rfl, Nat.le_of_ble_eq_true rfl, Nat.le_of_ble_eq_true rfl, Nat.le_of_ble_eq_true rfl⟩ rfl) ?_
  refine bn_gd_c (bn_cV_c fun h1 => ?_)
  refine Eq.trans (be_aload_n bd_54_75 rfl) ?_
  refine Eq.trans (be_getR bd_54_76 bf_2_19 rfl (Or.inr ⟨_, rfl⟩)) ?_
  refine bn_gR_c fun p3 => ?_
  refine Eq.trans (be_getR bd_54_79 bf_2_99 rfl (Or.inl ⟨_, rfl⟩)) ?_
  refine bn_gR_c fun p4 => ?_
  refine Eq.trans (be_iload_n bd_54_82 rfl) ?_
  refine Eq.trans (be_iload_n bd_54_83 rfl) ?_
  refine Eq.trans (be_iastore bd_54_84) ?_
  refine bn_bd_c fun h5 => ?_
  refine Eq.trans (be_iload_n bd_54_85 rfl) ?_
  exact be_ireturn bd_54_86 rfl
theorem bs_X2_cut_0 (a0 : Nat) (a1 : Int32) (h : bn_H) : bn_ev 55 0 [some (.ref a0), some (.int a1)] [] h = bn_gR h a0 2 1 (fun p1 => bn_gd (bn_isC h p1 0) (bn_cI (bn_ev 6 0 [some (.ref p1), some (.int a1)] [] h) (fun x3 h2 => if x3 = 0 then (some (some (.int (-1)), h2)) else (bn_gR h2 a0 2 1 (fun p4 => bn_gR h2 p4 0 11 (fun p5 => (bn_ld h2 p5 0 a1).bind (fun x6 => if x6 = 20 then (some (some (.int (-3)), h2)) else (bn_gR h2 a0 2 1 (fun p7 => bn_gR h2 p7 0 10 (fun p8 => (bn_ld h2 p8 0 a1).bind (fun x9 => bn_cI (bn_ev 72 0 [some (.int x9)] [] h2) (fun x11 h10 => if x11 = 0 then (some (some (.int (-3)), h10)) else (bn_gd (bn_isC h10 a0 2) (bn_cV (bn_ev 69 0 [some (.ref a0)] [] h10) (fun h12 => bn_gR h12 a0 2 1 (fun p14 => bn_gR h12 p14 0 10 (fun p15 => bn_gR h12 a0 2 1 (fun p16 => bn_gR h12 p16 0 10 (fun p17 => (bn_ld h12 p17 0 a1).bind (fun x18 => bn_cI (bn_ev 73 0 [some (.int x18)] [] h12) (fun x20 h19 => (bn_sd h19 p15 0 a1 x20).bind (fun h21 => bn_gR h21 a0 2 1 (fun p22 => bn_gR h21 p22 0 10 (fun p23 => (bn_ld h21 p23 0 a1).bind (fun x24 => some (some (.int x24), h21)))))))))))))))))))))))))) := by
  refine Eq.trans (be_aload_n bd_55_0 rfl) ?_
  refine Eq.trans (be_getR bd_55_1 bf_2_19 rfl (Or.inr ⟨_, rfl⟩)) ?_
  refine bn_gR_c fun p1 => ?_
  refine Eq.trans (be_iload_n bd_55_4 rfl) ?_
  refine Eq.trans (be_virtI (as := [.int a1]) (rr := []) (en := [some (.ref p1), some (.int a1)]) bd_55_5 bm_2_93 rfl rfl rfl ⟨Nat.le_of_ble_eq_true rfl, Nat.le_of_ble_eq_true rfl, Nat.le_of_ble_eq_true rfl, Nat.le_of_ble_eq_true rfl⟩ (Or.inr rfl)) ?_
  refine bn_gd_c (bn_cI_c fun x3 h2 => ?_)
  refine Eq.trans (be_if_ne (t := 13) bd_55_8 rfl) ?_
  refine bn_if_c ?_ ?_
  · refine Eq.trans (be_iconst (v := (-1)) bd_55_11 (by decide)) ?_
    exact be_ireturn bd_55_12 rfl
  · refine Eq.trans (be_aload_n bd_55_13 rfl) ?_
    refine Eq.trans (be_getR bd_55_14 bf_2_19 rfl (Or.inr ⟨_, rfl⟩)) ?_
    refine bn_gR_c fun p4 => ?_
    refine Eq.trans (be_getR bd_55_17 bf_2_99 rfl (Or.inl ⟨_, rfl⟩)) ?_
    refine bn_gR_c fun p5 => ?_
    refine Eq.trans (be_iload_n bd_55_20 rfl) ?_
    refine Eq.trans (be_iaload bd_55_21) ?_
    refine bn_bd_c fun x6 => ?_
    refine Eq.trans (be_bipush (v := 20) bd_55_22 (by decide)) ?_
    refine Eq.trans (be_icmp_eq (t := 42) bd_55_24 rfl) ?_
    refine bn_if_c ?_ ?_
    · refine Eq.trans (be_bipush (v := (-3)) bd_55_42 (by decide)) ?_
      exact be_ireturn bd_55_44 rfl
    · refine Eq.trans (be_aload_n bd_55_27 rfl) ?_
      refine Eq.trans (be_getR bd_55_28 bf_2_19 rfl (Or.inr ⟨_, rfl⟩)) ?_
      refine bn_gR_c fun p7 => ?_
      refine Eq.trans (be_getR bd_55_31 bf_2_96 rfl (Or.inl ⟨_, rfl⟩)) ?_
      refine bn_gR_c fun p8 => ?_
      refine Eq.trans (be_iload_n bd_55_34 rfl) ?_
      refine Eq.trans (be_iaload bd_55_35) ?_
      refine bn_bd_c fun x9 => ?_
      refine Eq.trans (be_statI (as := [.int x9]) (rr := []) (en := [some (.int x9)]) bd_55_36 bm_2_125 rfl rfl rfl ⟨Nat.le_of_ble_eq_true rfl, Nat.le_of_ble_eq_true rfl, Nat.le_of_ble_eq_true rfl, Nat.le_of_ble_eq_true rfl⟩ (Or.inr rfl)) ?_
      refine bn_cI_c fun x11 h10 => ?_
      refine Eq.trans (be_if_ne (t := 45) bd_55_39 rfl) ?_
      refine bn_if_c ?_ ?_
      · refine Eq.trans (be_bipush (v := (-3)) bd_55_42 (by decide)) ?_
        exact be_ireturn bd_55_44 rfl
      · refine Eq.trans (be_aload_n bd_55_45 rfl) ?_
        refine Eq.trans (be_virtV (as := []) (rr := []) (en := [some (.ref a0)]) bd_55_46 bm_2_118 rfl rfl rfl ⟨Nat.le_of_ble_eq_true rfl, Nat.le_of_ble_eq_true rfl, Nat.le_of_ble_eq_true rfl, Nat.le_of_ble_eq_true rfl⟩ rfl) ?_
        refine bn_gd_c (bn_cV_c fun h12 => ?_)
        refine Eq.trans (be_aload_n bd_55_49 rfl) ?_
        refine Eq.trans (be_getR bd_55_50 bf_2_19 rfl (Or.inr ⟨_, rfl⟩)) ?_
        refine bn_gR_c fun p14 => ?_
        refine Eq.trans (be_getR bd_55_53 bf_2_96 rfl (Or.inl ⟨_, rfl⟩)) ?_
        refine bn_gR_c fun p15 => ?_
        refine Eq.trans (be_iload_n bd_55_56 rfl) ?_
        refine Eq.trans (be_aload_n bd_55_57 rfl) ?_
        refine Eq.trans (be_getR bd_55_58 bf_2_19 rfl (Or.inr ⟨_, rfl⟩)) ?_
        refine bn_gR_c fun p16 => ?_
        refine Eq.trans (be_getR bd_55_61 bf_2_96 rfl (Or.inl ⟨_, rfl⟩)) ?_
        refine bn_gR_c fun p17 => ?_
        refine Eq.trans (be_iload_n bd_55_64 rfl) ?_
        refine Eq.trans (be_iaload bd_55_65) ?_
        refine bn_bd_c fun x18 => ?_
        refine Eq.trans (be_statI (as := [.int x18]) (rr := [.int a1, .ref p15]) (en := [some (.int x18)]) bd_55_66 bm_2_128 rfl rfl rfl ⟨Nat.le_of_ble_eq_true rfl, Nat.le_of_ble_eq_true rfl, Nat.le_of_ble_eq_true rfl, Nat.le_of_ble_eq_true rfl⟩ (Or.inl rfl)) ?_
        refine bn_cI_c fun x20 h19 => ?_
        refine Eq.trans (be_iastore bd_55_69) ?_
        refine bn_bd_c fun h21 => ?_
        refine Eq.trans (be_aload_n bd_55_70 rfl) ?_
        refine Eq.trans (be_getR bd_55_71 bf_2_19 rfl (Or.inr ⟨_, rfl⟩)) ?_
        refine bn_gR_c fun p22 => ?_
        refine Eq.trans (be_getR bd_55_74 bf_2_96 rfl (Or.inl ⟨_, rfl⟩)) ?_
        refine bn_gR_c fun p23 => ?_
        refine Eq.trans (be_iload_n bd_55_77 rfl) ?_
        refine Eq.trans (be_iaload bd_55_78) ?_
        refine bn_bd_c fun x24 => ?_
        exact be_ireturn bd_55_79 rfl
theorem bs_X2_day_0 (a0 : Nat) (h : bn_H) : bn_ev 56 0 [some (.ref a0)] [] h = bn_gd (bn_isC h a0 2) (bn_cV (bn_ev 69 0 [some (.ref a0)] [] h) (fun h1 => bn_gR h1 a0 2 1 (fun p3 => bn_gd (bn_isC h1 p3 0) (bn_cI (bn_ev 25 0 [some (.ref p3), none, none] [] h1) (fun x5 h4 => some (some (.int x5), h4)))))) := by
  refine Eq.trans (be_aload_n bd_56_0 rfl) ?_
  refine Eq.trans (be_virtV (as := []) (rr := []) (en := [some (.ref a0)]) bd_56_1 bm_2_118 rfl rfl rfl ⟨Nat.le_of_ble_eq_true rfl, Nat.le_of_ble_eq_true rfl, Nat.le_of_ble_eq_true rfl, Nat.le_of_ble_eq_true rfl⟩ rfl) ?_
  refine bn_gd_c (bn_cV_c fun h1 => ?_)
  refine Eq.trans (be_aload_n bd_56_4 rfl) ?_
  refine Eq.trans (be_getR bd_56_5 bf_2_19 rfl (Or.inr ⟨_, rfl⟩)) ?_
  refine bn_gR_c fun p3 => ?_
  refine Eq.trans (be_virtI (as := []) (rr := []) (en := [some (.ref p3), none, none]) bd_56_8 bm_2_131 rfl rfl rfl ⟨Nat.le_of_ble_eq_true rfl, Nat.le_of_ble_eq_true rfl, Nat.le_of_ble_eq_true rfl, Nat.le_of_ble_eq_true rfl⟩ (Or.inl rfl)) ?_
  refine bn_gd_c (bn_cI_c fun x5 h4 => ?_)
  exact be_ireturn bd_56_11 rfl
theorem bs_X2_night_0 (a0 : Nat) (h : bn_H) : bn_ev 57 0 [some (.ref a0), none, none, none, none, none] [] h = bn_gR h a0 2 1 (fun p1 => bn_gd (bn_isC h p1 0) (bn_cI (bn_ev 11 0 [some (.ref p1)] [] h) (fun x3 h2 => if x3 = 0 then (some (some (.int (-9)), h2)) else (bn_gd (bn_isC h2 a0 2) (bn_cV (bn_ev 69 0 [some (.ref a0)] [] h2) (fun h4 => bn_gR h4 a0 2 1 (fun p6 => bn_gR h4 a0 2 1 (fun p7 => bn_gJ h4 p7 0 4 (fun y8 => (bn_pf h4 p6 0 4 (.long ((y8 * 6364136223846793005) + 1442695040888963407))).bind (fun h9 => bn_gR h9 a0 2 1 (fun p10 => bn_gJ h9 p10 0 4 (fun y11 => bn_gR h9 a0 2 1 (fun p12 => if x3 = 0 then none else (bn_gd (bn_isC h9 p12 0) (bn_cI (bn_ev 12 0 [some (.ref p12), some (.int (bn_rem ((bn_lushr y11 33).toInt32) x3)), none, none] [] h9) (fun x14 h13 => bn_gR h13 a0 2 1 (fun p15 => bn_gd (bn_isC h13 p15 0) (bn_cI (bn_ev 15 0 [some (.ref p15), some (.int x14), none, none] [] h13) (fun x17 h16 => if x17 = 0 then (bn_ev 57 98 [some (.ref a0), some (.int x3), some (.int ((bn_lushr y11 33).toInt32)), some (.int x14), some (.int x17), none] [.int (-9)] h16) else (bn_gR h16 a0 2 1 (fun p18 => if x3 = 0 then none else (if x17 = 0 then none else (bn_gd (bn_isC h16 p18 0) (bn_cI (bn_ev 16 0 [some (.ref p18), some (.int x14), some (.int (bn_rem (((bn_lushr y11 33).toInt32) / x3) x17)), none, none] [] h16) (fun x20 h19 => bn_ev 57 98 [some (.ref a0), some (.int x3), some (.int ((bn_lushr y11 33).toInt32)), some (.int x14), some (.int x17), none] [.int x20] h19))))))))))))))))))))))))) := by
  refine Eq.trans (be_aload_n bd_57_0 rfl) ?_
  refine Eq.trans (be_getR bd_57_1 bf_2_19 rfl (Or.inr ⟨_, rfl⟩)) ?_
  refine bn_gR_c fun p1 => ?_
  refine Eq.trans (be_virtI (as := []) (rr := []) (en := [some (.ref p1)]) bd_57_4 bm_2_135 rfl rfl rfl ⟨Nat.le_of_ble_eq_true rfl, Nat.le_of_ble_eq_true rfl, Nat.le_of_ble_eq_true rfl, Nat.le_of_ble_eq_true rfl⟩ (Or.inl rfl)) ?_
  refine bn_gd_c (bn_cI_c fun x3 h2 => ?_)
  refine Eq.trans (be_istore_n (ls' := [some (.ref a0), some (.int x3), none, none, none, none]) bd_57_7 (Nat.le_of_ble_eq_true rfl) rfl) ?_
  refine Eq.trans (be_iload_n bd_57_8 rfl) ?_
  refine Eq.trans (be_if_ne (t := 15) bd_57_9 rfl) ?_
  refine bn_if_c ?_ ?_
  · refine Eq.trans (be_bipush (v := (-9)) bd_57_12 (by decide)) ?_
    exact be_ireturn bd_57_14 rfl
  · refine Eq.trans (be_aload_n bd_57_15 rfl) ?_
    refine Eq.trans (be_virtV (as := []) (rr := []) (en := [some (.ref a0)]) bd_57_16 bm_2_118 rfl rfl rfl ⟨Nat.le_of_ble_eq_true rfl, Nat.le_of_ble_eq_true rfl, Nat.le_of_ble_eq_true rfl, Nat.le_of_ble_eq_true rfl⟩ rfl) ?_
    refine bn_gd_c (bn_cV_c fun h4 => ?_)
    refine Eq.trans (be_aload_n bd_57_19 rfl) ?_
    refine Eq.trans (be_getR bd_57_20 bf_2_19 rfl (Or.inr ⟨_, rfl⟩)) ?_
    refine bn_gR_c fun p6 => ?_
    refine Eq.trans (be_aload_n bd_57_23 rfl) ?_
    refine Eq.trans (be_getR bd_57_24 bf_2_19 rfl (Or.inr ⟨_, rfl⟩)) ?_
    refine bn_gR_c fun p7 => ?_
    refine Eq.trans (be_getJ bd_57_27 bf_2_55 rfl) ?_
    refine bn_gJ_c fun y8 => ?_
    refine Eq.trans (be_ldc2w (v := 6364136223846793005) bd_57_30 rfl) ?_
    refine Eq.trans (be_lmul bd_57_33) ?_
    refine Eq.trans (be_ldc2w (v := 1442695040888963407) bd_57_34 rfl) ?_
    refine Eq.trans (be_ladd bd_57_37) ?_
    refine Eq.trans (be_putJ bd_57_38 bf_2_55 rfl rfl) ?_
    refine bn_bd_c fun h9 => ?_
    refine Eq.trans (be_aload_n bd_57_41 rfl) ?_
    refine Eq.trans (be_getR bd_57_42 bf_2_19 rfl (Or.inr ⟨_, rfl⟩)) ?_
    refine bn_gR_c fun p10 => ?_
    refine Eq.trans (be_getJ bd_57_45 bf_2_55 rfl) ?_
    refine bn_gJ_c fun y11 => ?_
    refine Eq.trans (be_bipush (v := 33) bd_57_48 (by decide)) ?_
    refine Eq.trans (be_lushr bd_57_50) ?_
    refine Eq.trans (be_l2i bd_57_51) ?_
    refine Eq.trans (be_istore_n (ls' := [some (.ref a0), some (.int x3), some (.int ((bn_lushr y11 33).toInt32)), none, none, none]) bd_57_52 (Nat.le_of_ble_eq_true rfl) rfl) ?_
    refine Eq.trans (be_aload_n bd_57_53 rfl) ?_
    refine Eq.trans (be_getR bd_57_54 bf_2_19 rfl (Or.inr ⟨_, rfl⟩)) ?_
    refine bn_gR_c fun p12 => ?_
    refine Eq.trans (be_iload_n bd_57_57 rfl) ?_
    refine Eq.trans (be_iload_n bd_57_58 rfl) ?_
    refine Eq.trans (be_irem bd_57_59) ?_
    refine bn_if_c rfl ?_
    refine Eq.trans (be_virtI (as := [.int (bn_rem ((bn_lushr y11 33).toInt32) x3)]) (rr := []) (en := [some (.ref p12), some (.int (bn_rem ((bn_lushr y11 33).toInt32) x3)), none, none]) bd_57_60 bm_2_142 rfl rfl rfl ⟨Nat.le_of_ble_eq_true rfl, Nat.le_of_ble_eq_true rfl, Nat.le_of_ble_eq_true rfl, Nat.le_of_ble_eq_true rfl⟩ (Or.inl rfl)) ?_
    refine bn_gd_c (bn_cI_c fun x14 h13 => ?_)
    refine Eq.trans (be_istore_n (ls' := [some (.ref a0), some (.int x3), some (.int ((bn_lushr y11 33).toInt32)), some (.int x14), none, none]) bd_57_63 (Nat.le_of_ble_eq_true rfl) rfl) ?_
    refine Eq.trans (be_aload_n bd_57_64 rfl) ?_
    refine Eq.trans (be_getR bd_57_65 bf_2_19 rfl (Or.inr ⟨_, rfl⟩)) ?_
    refine bn_gR_c fun p15 => ?_
    refine Eq.trans (be_iload_n bd_57_68 rfl) ?_
    refine Eq.trans (be_virtI (as := [.int x14]) (rr := []) (en := [some (.ref p15), some (.int x14), none, none]) bd_57_69 bm_2_145 rfl rfl rfl ⟨Nat.le_of_ble_eq_true rfl, Nat.le_of_ble_eq_true rfl, Nat.le_of_ble_eq_true rfl, Nat.le_of_ble_eq_true rfl⟩ (Or.inl rfl)) ?_
    refine bn_gd_c (bn_cI_c fun x17 h16 => ?_)
    refine Eq.trans (be_istore (ls' := [some (.ref a0), some (.int x3), some (.int ((bn_lushr y11 33).toInt32)), some (.int x14), some (.int x17), none]) bd_57_72 (Nat.le_of_ble_eq_true rfl) rfl) ?_
    refine Eq.trans (be_iload bd_57_74 rfl) ?_
    refine Eq.trans (be_if_ne (t := 84) bd_57_76 rfl) ?_
    refine bn_if_c ?_ ?_
    · refine Eq.trans (be_bipush (v := (-9)) bd_57_79 (by decide)) ?_
      refine Eq.trans (be_goto (t := 98) bd_57_81 rfl) ?_
      rfl
    · refine Eq.trans (be_aload_n bd_57_84 rfl) ?_
      refine Eq.trans (be_getR bd_57_85 bf_2_19 rfl (Or.inr ⟨_, rfl⟩)) ?_
      refine bn_gR_c fun p18 => ?_
      refine Eq.trans (be_iload_n bd_57_88 rfl) ?_
      refine Eq.trans (be_iload_n bd_57_89 rfl) ?_
      refine Eq.trans (be_iload_n bd_57_90 rfl) ?_
      refine Eq.trans (be_idiv bd_57_91) ?_
      refine bn_if_c rfl ?_
      refine Eq.trans (be_iload bd_57_92 rfl) ?_
      refine Eq.trans (be_irem bd_57_94) ?_
      refine bn_if_c rfl ?_
      refine Eq.trans (be_virtI (as := [.int (bn_rem (((bn_lushr y11 33).toInt32) / x3) x17), .int x14]) (rr := []) (en := [some (.ref p18), some (.int x14), some (.int (bn_rem (((bn_lushr y11 33).toInt32) / x3) x17)), none, none]) bd_57_95 bm_2_148 rfl rfl rfl ⟨Nat.le_of_ble_eq_true rfl, Nat.le_of_ble_eq_true rfl, Nat.le_of_ble_eq_true rfl, Nat.le_of_ble_eq_true rfl⟩ (Or.inl rfl)) ?_
      refine bn_gd_c (bn_cI_c fun x20 h19 => ?_)
      rfl
theorem bs_X2_night_98 (a0 : Nat) (a1 : Int32) (a2 : Int32) (a3 : Int32) (a4 : Int32) (o5 : Option Value) (s0 : Int32) (h : bn_H) : bn_ev 57 98 [some (.ref a0), some (.int a1), some (.int a2), some (.int a3), some (.int a4), o5] [.int s0] h = if 0 ≤ s0 then (bn_gR h a0 2 1 (fun p1 => bn_gR h p1 0 11 (fun p2 => (bn_sd h p2 0 s0 a3).bind (fun h3 => some (some (.int ((10 * a3) + s0)), h3))))) else (some (some (.int (-9)), h)) := by
  refine Eq.trans (be_istore (ls' := [some (.ref a0), some (.int a1), some (.int a2), some (.int a3), some (.int a4), some (.int s0)]) bd_57_98 (Nat.le_of_ble_eq_true rfl) rfl) ?_
  refine Eq.trans (be_iload bd_57_100 rfl) ?_
  refine Eq.trans (be_if_ge (t := 108) bd_57_102 rfl) ?_
  refine bn_if_c ?_ ?_
  · refine Eq.trans (be_aload_n bd_57_108 rfl) ?_
    refine Eq.trans (be_getR bd_57_109 bf_2_19 rfl (Or.inr ⟨_, rfl⟩)) ?_
    refine bn_gR_c fun p1 => ?_
    refine Eq.trans (be_getR bd_57_112 bf_2_99 rfl (Or.inl ⟨_, rfl⟩)) ?_
    refine bn_gR_c fun p2 => ?_
    refine Eq.trans (be_iload bd_57_115 rfl) ?_
    refine Eq.trans (be_iload_n bd_57_117 rfl) ?_
    refine Eq.trans (be_iastore bd_57_118) ?_
    refine bn_bd_c fun h3 => ?_
    refine Eq.trans (be_bipush (v := 10) bd_57_119 (by decide)) ?_
    refine Eq.trans (be_iload_n bd_57_121 rfl) ?_
    refine Eq.trans (be_imul bd_57_122) ?_
    refine Eq.trans (be_iload bd_57_123 rfl) ?_
    refine Eq.trans (be_iadd bd_57_125) ?_
    exact be_ireturn bd_57_126 rfl
  · refine Eq.trans (be_bipush (v := (-9)) bd_57_105 (by decide)) ?_
    exact be_ireturn bd_57_107 rfl
theorem bs_X2_undo_0 (a0 : Nat) (h : bn_H) : bn_ev 58 0 [some (.ref a0)] [] h = bn_gI h a0 2 5 (fun x1 => if x1 = 0 then (some (some (.int (-3)), h)) else (bn_gI h a0 2 5 (fun x2 => (bn_pf h a0 2 5 (.int (x2 - 1))).bind (fun h3 => bn_gR h3 a0 2 1 (fun p4 => bn_gR h3 a0 2 3 (fun p5 => bn_gI h3 a0 2 4 (fun x6 => bn_gI h3 a0 2 5 (fun x7 => (bn_rld h3 p5 (bn_rem (x6 + x7) 20)).bind (fun p8 => bn_gd (bn_isC h3 p4 0) (bn_cV (bn_ev 4 0 [some (.ref p4), some (.ref p8), none] [] h3) (fun h9 => bn_gI h9 a0 2 5 (fun x11 => some (some (.int x11), h9))))))))))))) := by
  refine Eq.trans (be_aload_n bd_58_0 rfl) ?_
  refine Eq.trans (be_getI bd_58_1 bf_2_34 rfl) ?_
  refine bn_gI_c fun x1 => ?_
  refine Eq.trans (be_if_ne (t := 10) bd_58_4 rfl) ?_
  refine bn_if_c ?_ ?_
  · refine Eq.trans (be_bipush (v := (-3)) bd_58_7 (by decide)) ?_
    exact be_ireturn bd_58_9 rfl
  · refine Eq.trans (be_aload_n bd_58_10 rfl) ?_
    refine Eq.trans (be_dup bd_58_11 rfl) ?_
    refine Eq.trans (be_getI bd_58_12 bf_2_34 rfl) ?_
    refine bn_gI_c fun x2 => ?_
    refine Eq.trans (be_iconst (v := 1) bd_58_15 (by decide)) ?_
    refine Eq.trans (be_isub bd_58_16) ?_
    refine Eq.trans (be_putI bd_58_17 bf_2_34 rfl rfl) ?_
    refine bn_bd_c fun h3 => ?_
    refine Eq.trans (be_aload_n bd_58_20 rfl) ?_
    refine Eq.trans (be_getR bd_58_21 bf_2_19 rfl (Or.inr ⟨_, rfl⟩)) ?_
    refine bn_gR_c fun p4 => ?_
    refine Eq.trans (be_aload_n bd_58_24 rfl) ?_
    refine Eq.trans (be_getR bd_58_25 bf_2_26 rfl (Or.inl ⟨_, rfl⟩)) ?_
    refine bn_gR_c fun p5 => ?_
    refine Eq.trans (be_aload_n bd_58_28 rfl) ?_
    refine Eq.trans (be_getI bd_58_29 bf_2_30 rfl) ?_
    refine bn_gI_c fun x6 => ?_
    refine Eq.trans (be_aload_n bd_58_32 rfl) ?_
    refine Eq.trans (be_getI bd_58_33 bf_2_34 rfl) ?_
    refine bn_gI_c fun x7 => ?_
    refine Eq.trans (be_iadd bd_58_36) ?_
    refine Eq.trans (be_bipush (v := 20) bd_58_37 (by decide)) ?_
    refine Eq.trans (be_irem_c bd_58_39 (by decide)) ?_
    refine Eq.trans (be_aaload bd_58_40) ?_
    refine bn_bd_c fun p8 => ?_
    refine Eq.trans (be_virtV (as := [.ref p8]) (rr := []) (en := [some (.ref p4), some (.ref p8), none]) bd_58_41 bm_2_59 rfl rfl rfl ⟨Nat.le_of_ble_eq_true rfl, Nat.le_of_ble_eq_true rfl, Nat.le_of_ble_eq_true rfl, Nat.le_of_ble_eq_true rfl⟩ rfl) ?_
    refine bn_gd_c (bn_cV_c fun h9 => ?_)
    refine Eq.trans (be_aload_n bd_58_44 rfl) ?_
    refine Eq.trans (be_getI bd_58_45 bf_2_34 rfl) ?_
    refine bn_gI_c fun x11 => ?_
    exact be_ireturn bd_58_48 rfl
theorem bs_X2_seed_0 (a0 : Nat) (a1 : Int64) (h : bn_H) : bn_ev 59 0 [some (.ref a0), some (.long a1), none, none, none] [] h = bn_gR h a0 2 1 (fun p1 => bn_gJ h p1 0 4 (fun y2 => bn_gR h a0 2 1 (fun p3 => (bn_pf h p3 0 4 (.long a1)).bind (fun h4 => some (some (.long y2), h4))))) := by
  refine Eq.trans (be_aload_n bd_59_0 rfl) ?_
  refine Eq.trans (be_getR bd_59_1 bf_2_19 rfl (Or.inr ⟨_, rfl⟩)) ?_
  refine bn_gR_c fun p1 => ?_
  refine Eq.trans (be_getJ bd_59_4 bf_2_55 rfl) ?_
  refine bn_gJ_c fun y2 => ?_
  refine Eq.trans (be_lstore_n (ls' := [some (.ref a0), some (.long a1), none, some (.long y2), none]) bd_59_7 (Nat.le_of_ble_eq_true rfl) rfl) ?_
  refine Eq.trans (be_aload_n bd_59_8 rfl) ?_
  refine Eq.trans (be_getR bd_59_9 bf_2_19 rfl (Or.inr ⟨_, rfl⟩)) ?_
  refine bn_gR_c fun p3 => ?_
  refine Eq.trans (be_lload_n bd_59_12 rfl) ?_
  refine Eq.trans (be_putJ bd_59_13 bf_2_55 rfl rfl) ?_
  refine bn_bd_c fun h4 => ?_
  refine Eq.trans (be_lload_n bd_59_16 rfl) ?_
  exact be_lreturn bd_59_17 rfl
theorem bs_X2_lasts_0 (a0 : Nat) (h : bn_H) : bn_ev 60 0 [some (.ref a0)] [] h = bn_gd (bn_isC h a0 2) (bn_cI (bn_ev 71 0 [some (.ref a0), none] [] h) (fun x2 h1 => some (some (.int x2), h1))) := by
  refine Eq.trans (be_aload_n bd_60_0 rfl) ?_
  refine Eq.trans (be_virtI (as := []) (rr := []) (en := [some (.ref a0), none]) bd_60_1 bm_2_152 rfl rfl rfl ⟨Nat.le_of_ble_eq_true rfl, Nat.le_of_ble_eq_true rfl, Nat.le_of_ble_eq_true rfl, Nat.le_of_ble_eq_true rfl⟩ (Or.inl rfl)) ?_
  refine bn_gd_c (bn_cI_c fun x2 h1 => ?_)
  exact be_ireturn bd_60_4 rfl
theorem bs_X2_first_0 (a0 : Nat) (h : bn_H) : bn_ev 61 0 [some (.ref a0), none] [] h = bn_gd (bn_isC h a0 2) (bn_cI (bn_ev 71 0 [some (.ref a0), none] [] h) (fun x2 h1 => if 0 < x2 then (bn_ev 61 12 [some (.ref a0), some (.int 0)] [] h1) else (some (some (.int (-9)), h1)))) := by
  refine Eq.trans (be_aload_n bd_61_0 rfl) ?_
  refine Eq.trans (be_virtI (as := []) (rr := []) (en := [some (.ref a0), none]) bd_61_1 bm_2_152 rfl rfl rfl ⟨Nat.le_of_ble_eq_true rfl, Nat.le_of_ble_eq_true rfl, Nat.le_of_ble_eq_true rfl, Nat.le_of_ble_eq_true rfl⟩ (Or.inl rfl)) ?_
  refine bn_gd_c (bn_cI_c fun x2 h1 => ?_)
  refine Eq.trans (be_if_gt (t := 10) bd_61_4 rfl) ?_
  refine bn_if_c ?_ ?_
  · refine Eq.trans (be_iconst (v := 0) bd_61_10 (by decide)) ?_
    refine Eq.trans (be_istore_n (ls' := [some (.ref a0), some (.int 0)]) bd_61_11 (Nat.le_of_ble_eq_true rfl) rfl) ?_
    rfl
  · refine Eq.trans (be_bipush (v := (-9)) bd_61_7 (by decide)) ?_
    exact be_ireturn bd_61_9 rfl
theorem bs_X2_first_12 (a0 : Nat) (a1 : Int32) (h : bn_H) : bn_ev 61 12 [some (.ref a0), some (.int a1)] [] h = bn_gR h a0 2 1 (fun p1 => bn_gI h p1 0 5 (fun x2 => if x2 ≤ a1 then (some (some (.int (-9)), h)) else (bn_gR h a0 2 1 (fun p3 => bn_gd (bn_isC h p3 0) (bn_cI (bn_ev 7 0 [some (.ref p3), some (.int a1)] [] h) (fun x5 h4 => if x5 = 0 then (bn_ev 61 12 [some (.ref a0), some (.int (a1 + 1))] [] h4) else (bn_gR h4 a0 2 2 (fun p6 => bn_gd (bn_isC h4 p6 0) (bn_cI (bn_ev 7 0 [some (.ref p6), some (.int a1)] [] h4) (fun x8 h7 => if x8 = 0 then (some (some (.int a1), h7)) else (bn_ev 61 12 [some (.ref a0), some (.int (a1 + 1))] [] h7))))))))))) := by
  refine Eq.trans (be_iload_n bd_61_12 rfl) ?_
  refine Eq.trans (be_aload_n bd_61_13 rfl) ?_
  refine Eq.trans (be_getR bd_61_14 bf_2_19 rfl (Or.inr ⟨_, rfl⟩)) ?_
  refine bn_gR_c fun p1 => ?_
  refine Eq.trans (be_getI bd_61_17 bf_2_66 rfl) ?_
  refine bn_gI_c fun x2 => ?_
  refine Eq.trans (be_icmp_ge (t := 53) bd_61_20 rfl) ?_
  refine bn_if_c ?_ ?_
  · refine Eq.trans (be_bipush (v := (-9)) bd_61_53 (by decide)) ?_
    exact be_ireturn bd_61_55 rfl
  · refine Eq.trans (be_aload_n bd_61_23 rfl) ?_
    refine Eq.trans (be_getR bd_61_24 bf_2_19 rfl (Or.inr ⟨_, rfl⟩)) ?_
    refine bn_gR_c fun p3 => ?_
    refine Eq.trans (be_iload_n bd_61_27 rfl) ?_
    refine Eq.trans (be_virtI (as := [.int a1]) (rr := []) (en := [some (.ref p3), some (.int a1)]) bd_61_28 bm_2_80 rfl rfl rfl ⟨Nat.le_of_ble_eq_true rfl, Nat.le_of_ble_eq_true rfl, Nat.le_of_ble_eq_true rfl, Nat.le_of_ble_eq_true rfl⟩ (Or.inr rfl)) ?_
    refine bn_gd_c (bn_cI_c fun x5 h4 => ?_)
    refine Eq.trans (be_if_eq (t := 47) bd_61_31 rfl) ?_
    refine bn_if_c ?_ ?_
    · refine Eq.trans (be_iinc (v := 1) (ls' := [some (.ref a0), some (.int (a1 + 1))]) bd_61_47 rfl (by decide) (Nat.le_of_ble_eq_true rfl) rfl) ?_
      refine Eq.trans (be_goto (t := 12) bd_61_50 rfl) ?_
      rfl
    · refine Eq.trans (be_aload_n bd_61_34 rfl) ?_
      refine Eq.trans (be_getR bd_61_35 bf_2_23 rfl (Or.inr ⟨_, rfl⟩)) ?_
      refine bn_gR_c fun p6 => ?_
      refine Eq.trans (be_iload_n bd_61_38 rfl) ?_
      refine Eq.trans (be_virtI (as := [.int a1]) (rr := []) (en := [some (.ref p6), some (.int a1)]) bd_61_39 bm_2_80 rfl rfl rfl ⟨Nat.le_of_ble_eq_true rfl, Nat.le_of_ble_eq_true rfl, Nat.le_of_ble_eq_true rfl, Nat.le_of_ble_eq_true rfl⟩ (Or.inr rfl)) ?_
      refine bn_gd_c (bn_cI_c fun x8 h7 => ?_)
      refine Eq.trans (be_if_ne (t := 47) bd_61_42 rfl) ?_
      refine bn_if_c ?_ ?_
      · refine Eq.trans (be_iload_n bd_61_45 rfl) ?_
        exact be_ireturn bd_61_46 rfl
      · refine Eq.trans (be_iinc (v := 1) (ls' := [some (.ref a0), some (.int (a1 + 1))]) bd_61_47 rfl (by decide) (Nat.le_of_ble_eq_true rfl) rfl) ?_
        refine Eq.trans (be_goto (t := 12) bd_61_50 rfl) ?_
        rfl
theorem bs_X2_best_0 (a0 : Nat) (h : bn_H) : bn_ev 62 0 [some (.ref a0), none, none] [] h = bn_gR h a0 2 1 (fun p1 => bn_gd (bn_isC h p1 0) (bn_cI (bn_ev 11 0 [some (.ref p1)] [] h) (fun x3 h2 => if x3 = 0 then (some (some (.int (-3)), h2)) else (if x3 ≤ 3 then (bn_ev 62 22 [some (.ref a0), some (.int x3), some (.int 0)] [] h2) else (some (some (.int (-3)), h2)))))) := by
  refine Eq.trans (be_aload_n bd_62_0 rfl) ?_
  refine Eq.trans (be_getR bd_62_1 bf_2_19 rfl (Or.inr ⟨_, rfl⟩)) ?_
  refine bn_gR_c fun p1 => ?_
  refine Eq.trans (be_virtI (as := []) (rr := []) (en := [some (.ref p1)]) bd_62_4 bm_2_135 rfl rfl rfl ⟨Nat.le_of_ble_eq_true rfl, Nat.le_of_ble_eq_true rfl, Nat.le_of_ble_eq_true rfl, Nat.le_of_ble_eq_true rfl⟩ (Or.inl rfl)) ?_
  refine bn_gd_c (bn_cI_c fun x3 h2 => ?_)
  refine Eq.trans (be_istore_n (ls' := [some (.ref a0), some (.int x3), none]) bd_62_7 (Nat.le_of_ble_eq_true rfl) rfl) ?_
  refine Eq.trans (be_iload_n bd_62_8 rfl) ?_
  refine Eq.trans (be_if_eq (t := 17) bd_62_9 rfl) ?_
  refine bn_if_c ?_ ?_
  · refine Eq.trans (be_bipush (v := (-3)) bd_62_17 (by decide)) ?_
    exact be_ireturn bd_62_19 rfl
  · refine Eq.trans (be_iload_n bd_62_12 rfl) ?_
    refine Eq.trans (be_iconst (v := 3) bd_62_13 (by decide)) ?_
    refine Eq.trans (be_icmp_le (t := 20) bd_62_14 rfl) ?_
    refine bn_if_c ?_ ?_
    · refine Eq.trans (be_iconst (v := 0) bd_62_20 (by decide)) ?_
      refine Eq.trans (be_istore_n (ls' := [some (.ref a0), some (.int x3), some (.int 0)]) bd_62_21 (Nat.le_of_ble_eq_true rfl) rfl) ?_
      rfl
    · refine Eq.trans (be_bipush (v := (-3)) bd_62_17 (by decide)) ?_
      exact be_ireturn bd_62_19 rfl
theorem bs_X2_best_22 (a0 : Nat) (a1 : Int32) (a2 : Int32) (h : bn_H) : bn_ev 62 22 [some (.ref a0), some (.int a1), some (.int a2)] [] h = if 200 ≤ a2 then (some (some (.int a2), h)) else (bn_gR h a0 2 1 (fun p1 => bn_gd (bn_isC h p1 0) (bn_cI (bn_ev 29 0 [some (.ref p1), some (.int (a2 + 1)), none, none] [] h) (fun x3 h2 => if x3 = 0 then (some (some (.int a2), h2)) else (bn_ev 62 22 [some (.ref a0), some (.int a1), some (.int (a2 + 1))] [] h2))))) := by
  refine Eq.trans (be_iload_n bd_62_22 rfl) ?_
  refine Eq.trans (be_sipush (v := 200) bd_62_23 (by decide)) ?_
  refine Eq.trans (be_icmp_ge (t := 48) bd_62_26 rfl) ?_
  refine bn_if_c ?_ ?_
  · refine Eq.trans (be_iload_n bd_62_48 rfl) ?_
    exact be_ireturn bd_62_49 rfl
  · refine Eq.trans (be_aload_n bd_62_29 rfl) ?_
    refine Eq.trans (be_getR bd_62_30 bf_2_19 rfl (Or.inr ⟨_, rfl⟩)) ?_
    refine bn_gR_c fun p1 => ?_
    refine Eq.trans (be_iload_n bd_62_33 rfl) ?_
    refine Eq.trans (be_iconst (v := 1) bd_62_34 (by decide)) ?_
    refine Eq.trans (be_iadd bd_62_35) ?_
    refine Eq.trans (be_virtI (as := [.int (a2 + 1)]) (rr := []) (en := [some (.ref p1), some (.int (a2 + 1)), none, none]) bd_62_36 bm_2_155 rfl rfl rfl ⟨Nat.le_of_ble_eq_true rfl, Nat.le_of_ble_eq_true rfl, Nat.le_of_ble_eq_true rfl, Nat.le_of_ble_eq_true rfl⟩ (Or.inr rfl)) ?_
    refine bn_gd_c (bn_cI_c fun x3 h2 => ?_)
    refine Eq.trans (be_if_eq (t := 48) bd_62_39 rfl) ?_
    refine bn_if_c ?_ ?_
    · refine Eq.trans (be_iload_n bd_62_48 rfl) ?_
      exact be_ireturn bd_62_49 rfl
    · refine Eq.trans (be_iinc (v := 1) (ls' := [some (.ref a0), some (.int a1), some (.int (a2 + 1))]) bd_62_42 rfl (by decide) (Nat.le_of_ble_eq_true rfl) rfl) ?_
      refine Eq.trans (be_goto (t := 22) bd_62_45 rfl) ?_
      rfl
theorem bs_X2_missing_0 (a0 : Nat) (a1 : Int32) (h : bn_H) : bn_ev 63 0 [some (.ref a0), some (.int a1), none, none, none] [] h = bn_gR h a0 2 1 (fun p1 => bn_gd (bn_isC h p1 0) (bn_cI (bn_ev 20 0 [some (.ref p1), none, none] [] h) (fun x3 h2 => bn_ev 63 13 [some (.ref a0), some (.int a1), some (.int x3), some (.int 0), some (.int 1)] [] h2))) := by
  refine Eq.trans (be_aload_n bd_63_0 rfl) ?_
  refine Eq.trans (be_getR bd_63_1 bf_2_19 rfl (Or.inr ⟨_, rfl⟩)) ?_
  refine bn_gR_c fun p1 => ?_
  refine Eq.trans (be_virtI (as := []) (rr := []) (en := [some (.ref p1), none, none]) bd_63_4 bm_2_158 rfl rfl rfl ⟨Nat.le_of_ble_eq_true rfl, Nat.le_of_ble_eq_true rfl, Nat.le_of_ble_eq_true rfl, Nat.le_of_ble_eq_true rfl⟩ (Or.inl rfl)) ?_
  refine bn_gd_c (bn_cI_c fun x3 h2 => ?_)
  refine Eq.trans (be_istore_n (ls' := [some (.ref a0), some (.int a1), some (.int x3), none, none]) bd_63_7 (Nat.le_of_ble_eq_true rfl) rfl) ?_
  refine Eq.trans (be_iconst (v := 0) bd_63_8 (by decide)) ?_
  refine Eq.trans (be_istore_n (ls' := [some (.ref a0), some (.int a1), some (.int x3), some (.int 0), none]) bd_63_9 (Nat.le_of_ble_eq_true rfl) rfl) ?_
  refine Eq.trans (be_iconst (v := 1) bd_63_10 (by decide)) ?_
  refine Eq.trans (be_istore (ls' := [some (.ref a0), some (.int a1), some (.int x3), some (.int 0), some (.int 1)]) bd_63_11 (Nat.le_of_ble_eq_true rfl) rfl) ?_
  rfl
theorem bs_X2_missing_13 (a0 : Nat) (a1 : Int32) (a2 : Int32) (a3 : Int32) (a4 : Int32) (h : bn_H) : bn_ev 63 13 [some (.ref a0), some (.int a1), some (.int a2), some (.int a3), some (.int a4)] [] h = if a2 ≤ a4 then (some (some (.int (-9)), h)) else (bn_gR h a0 2 1 (fun p1 => bn_gd (bn_isC h p1 0) (bn_cI (bn_ev 19 0 [some (.ref p1), some (.int a4), none] [] h) (fun x3 h2 => if x3 = 0 then (if a3 = a1 then (some (some (.int a4), h2)) else (bn_ev 63 13 [some (.ref a0), some (.int a1), some (.int a2), some (.int (a3 + 1)), some (.int (a4 + 1))] [] h2)) else (bn_ev 63 13 [some (.ref a0), some (.int a1), some (.int a2), some (.int a3), some (.int (a4 + 1))] [] h2))))) := by
  refine Eq.trans (be_iload bd_63_13 rfl) ?_
  refine Eq.trans (be_iload_n bd_63_15 rfl) ?_
  refine Eq.trans (be_icmp_ge (t := 48) bd_63_16 rfl) ?_
  refine bn_if_c ?_ ?_
  · refine Eq.trans (be_bipush (v := (-9)) bd_63_48 (by decide)) ?_
    exact be_ireturn bd_63_50 rfl
  · refine Eq.trans (be_aload_n bd_63_19 rfl) ?_
    refine Eq.trans (be_getR bd_63_20 bf_2_19 rfl (Or.inr ⟨_, rfl⟩)) ?_
    refine bn_gR_c fun p1 => ?_
    refine Eq.trans (be_iload bd_63_23 rfl) ?_
    refine Eq.trans (be_virtI (as := [.int a4]) (rr := []) (en := [some (.ref p1), some (.int a4), none]) bd_63_25 bm_2_161 rfl rfl rfl ⟨Nat.le_of_ble_eq_true rfl, Nat.le_of_ble_eq_true rfl, Nat.le_of_ble_eq_true rfl, Nat.le_of_ble_eq_true rfl⟩ (Or.inr rfl)) ?_
    refine bn_gd_c (bn_cI_c fun x3 h2 => ?_)
    refine Eq.trans (be_if_ne (t := 42) bd_63_28 rfl) ?_
    refine bn_if_c ?_ ?_
    · refine Eq.trans (be_iload_n bd_63_31 rfl) ?_
      refine Eq.trans (be_iload_n bd_63_32 rfl) ?_
      refine Eq.trans (be_icmp_ne (t := 39) bd_63_33 rfl) ?_
      refine bn_if_c ?_ ?_
      · refine Eq.trans (be_iload bd_63_36 rfl) ?_
        exact be_ireturn bd_63_38 rfl
      · refine Eq.trans (be_iinc (v := 1) (ls' := [some (.ref a0), some (.int a1), some (.int a2), some (.int (a3 + 1)), some (.int a4)]) bd_63_39 rfl (by decide) (Nat.le_of_ble_eq_true rfl) rfl) ?_
        refine Eq.trans (be_iinc (v := 1) (ls' := [some (.ref a0), some (.int a1), some (.int a2), some (.int (a3 + 1)), some (.int (a4 + 1))]) bd_63_42 rfl (by decide) (Nat.le_of_ble_eq_true rfl) rfl) ?_
        refine Eq.trans (be_goto (t := 13) bd_63_45 rfl) ?_
        rfl
    · refine Eq.trans (be_iinc (v := 1) (ls' := [some (.ref a0), some (.int a1), some (.int a2), some (.int a3), some (.int (a4 + 1))]) bd_63_42 rfl (by decide) (Nat.le_of_ble_eq_true rfl) rfl) ?_
      refine Eq.trans (be_goto (t := 13) bd_63_45 rfl) ?_
      rfl
theorem bs_X2_forged_0 (a0 : Nat) (a1 : Int32) (a2 : Int32) (a3 : Int32) (a4 : Int32) (h : bn_H) : bn_ev 64 0 [some (.ref a0), some (.int a1), some (.int a2), some (.int a3), some (.int a4), none, none] [] h = if a1 < 1 then (some (some (.int (-2)), h)) else (if 99 < a1 then (some (some (.int (-2)), h)) else (if a2 < 1 then (some (some (.int (-2)), h)) else (if 99 < a2 then (some (some (.int (-2)), h)) else (if a3 < 0 then (some (some (.int (-2)), h)) else (if a3 ≤ 10 then (bn_ev 64 41 [some (.ref a0), some (.int a1), some (.int a2), some (.int a3), some (.int a4), some (.int 0), some (.int 1)] [] h) else (some (some (.int (-2)), h))))))) := by
  refine Eq.trans (be_iload_n bd_64_0 rfl) ?_
  refine Eq.trans (be_iconst (v := 1) bd_64_1 (by decide)) ?_
  refine Eq.trans (be_icmp_lt (t := 32) bd_64_2 rfl) ?_
  refine bn_if_c ?_ ?_
  · refine Eq.trans (be_bipush (v := (-2)) bd_64_32 (by decide)) ?_
    exact be_ireturn bd_64_34 rfl
  · refine Eq.trans (be_iload_n bd_64_5 rfl) ?_
    refine Eq.trans (be_bipush (v := 99) bd_64_6 (by decide)) ?_
    refine Eq.trans (be_icmp_gt (t := 32) bd_64_8 rfl) ?_
    refine bn_if_c ?_ ?_
    · refine Eq.trans (be_bipush (v := (-2)) bd_64_32 (by decide)) ?_
      exact be_ireturn bd_64_34 rfl
    · refine Eq.trans (be_iload_n bd_64_11 rfl) ?_
      refine Eq.trans (be_iconst (v := 1) bd_64_12 (by decide)) ?_
      refine Eq.trans (be_icmp_lt (t := 32) bd_64_13 rfl) ?_
      refine bn_if_c ?_ ?_
      · refine Eq.trans (be_bipush (v := (-2)) bd_64_32 (by decide)) ?_
        exact be_ireturn bd_64_34 rfl
      · refine Eq.trans (be_iload_n bd_64_16 rfl) ?_
        refine Eq.trans (be_bipush (v := 99) bd_64_17 (by decide)) ?_
        refine Eq.trans (be_icmp_gt (t := 32) bd_64_19 rfl) ?_
        refine bn_if_c ?_ ?_
        · refine Eq.trans (be_bipush (v := (-2)) bd_64_32 (by decide)) ?_
          exact be_ireturn bd_64_34 rfl
        · refine Eq.trans (be_iload_n bd_64_22 rfl) ?_
          refine Eq.trans (be_if_lt (t := 32) bd_64_23 rfl) ?_
          refine bn_if_c ?_ ?_
          · refine Eq.trans (be_bipush (v := (-2)) bd_64_32 (by decide)) ?_
            exact be_ireturn bd_64_34 rfl
          · refine Eq.trans (be_iload_n bd_64_26 rfl) ?_
            refine Eq.trans (be_bipush (v := 10) bd_64_27 (by decide)) ?_
            refine Eq.trans (be_icmp_le (t := 35) bd_64_29 rfl) ?_
            refine bn_if_c ?_ ?_
            · refine Eq.trans (be_iconst (v := 0) bd_64_35 (by decide)) ?_
              refine Eq.trans (be_istore (ls' := [some (.ref a0), some (.int a1), some (.int a2), some (.int a3), some (.int a4), some (.int 0), none]) bd_64_36 (Nat.le_of_ble_eq_true rfl) rfl) ?_
              refine Eq.trans (be_iconst (v := 1) bd_64_38 (by decide)) ?_
              refine Eq.trans (be_istore (ls' := [some (.ref a0), some (.int a1), some (.int a2), some (.int a3), some (.int a4), some (.int 0), some (.int 1)]) bd_64_39 (Nat.le_of_ble_eq_true rfl) rfl) ?_
              rfl
            · refine Eq.trans (be_bipush (v := (-2)) bd_64_32 (by decide)) ?_
              exact be_ireturn bd_64_34 rfl
theorem bs_X2_forged_41 (a0 : Nat) (a1 : Int32) (a2 : Int32) (a3 : Int32) (a4 : Int32) (a5 : Int32) (a6 : Int32) (h : bn_H) : bn_ev 64 41 [some (.ref a0), some (.int a1), some (.int a2), some (.int a3), some (.int a4), some (.int a5), some (.int a6)] [] h = if a2 < a6 then (if a2 < a1 then (bn_ev 64 106 [some (.ref a0), some (.int a1), some (.int a2), some (.int a3), some (.int a4), some (.int a5), some (.int a5)] [] h) else (bn_cI (bn_ev 72 0 [some (.int a1)] [] h) (fun x2 h1 => bn_ev 64 106 [some (.ref a0), some (.int a1), some (.int a2), some (.int a3), some (.int a4), some (.int a5), some (.int (a5 + (if x2 = 0 then 10 else 10 - a3)))] [] h1))) else (bn_cI (bn_ev 72 0 [some (.int a6)] [] h) (fun x4 h3 => if x4 = 0 then (bn_ev 64 41 [some (.ref a0), some (.int a1), some (.int a2), some (.int a3), some (.int a4), some (.int a5), some (.int (a6 + 1))] [] h3) else (bn_cI (bn_ev 73 0 [some (.int a6)] [] h3) (fun x6 h5 => if x6 = a1 then (bn_ev 64 41 [some (.ref a0), some (.int a1), some (.int a2), some (.int a3), some (.int a4), some (.int (a5 + a3)), some (.int (a6 + 1))] [] h5) else (bn_ev 64 41 [some (.ref a0), some (.int a1), some (.int a2), some (.int a3), some (.int a4), some (.int a5), some (.int (a6 + 1))] [] h5))))) := by
  refine Eq.trans (be_iload bd_64_41 rfl) ?_
  refine Eq.trans (be_iload_n bd_64_43 rfl) ?_
  refine Eq.trans (be_icmp_gt (t := 76) bd_64_44 rfl) ?_
  refine bn_if_c ?_ ?_
  · refine Eq.trans (be_iload bd_64_76 rfl) ?_
    refine Eq.trans (be_istore (ls' := [some (.ref a0), some (.int a1), some (.int a2), some (.int a3), some (.int a4), some (.int a5), some (.int a5)]) bd_64_78 (Nat.le_of_ble_eq_true rfl) rfl) ?_
    refine Eq.trans (be_iload_n bd_64_80 rfl) ?_
    refine Eq.trans (be_iload_n bd_64_81 rfl) ?_
    refine Eq.trans (be_icmp_gt (t := 106) bd_64_82 rfl) ?_
    refine bn_if_c ?_ ?_
    · rfl
    · refine Eq.trans (be_iload bd_64_85 rfl) ?_
      refine Eq.trans (be_iload_n bd_64_87 rfl) ?_
      refine Eq.trans (be_statI (as := [.int a1]) (rr := [.int a5]) (en := [some (.int a1)]) bd_64_88 bm_2_125 rfl rfl rfl ⟨Nat.le_of_ble_eq_true rfl, Nat.le_of_ble_eq_true rfl, Nat.le_of_ble_eq_true rfl, Nat.le_of_ble_eq_true rfl⟩ (Or.inr rfl)) ?_
      refine bn_cI_c fun x2 h1 => ?_
      refine Eq.trans (be_if_eq (t := 101) bd_64_91 rfl) ?_
      refine Eq.trans (bn_dia (J := 103) (a := 10) (b := 10 - a3) (by
      refine Eq.trans (be_bipush (v := 10) bd_64_101 (by decide)) ?_
      rfl) (by
      refine Eq.trans (be_bipush (v := 10) bd_64_94 (by decide)) ?_
      refine Eq.trans (be_iload_n bd_64_96 rfl) ?_
      refine Eq.trans (be_isub bd_64_97) ?_
      refine Eq.trans (be_goto (t := 103) bd_64_98 rfl) ?_
      rfl)) ?_
      refine Eq.trans (be_iadd bd_64_103) ?_
      refine Eq.trans (be_istore (ls' := [some (.ref a0), some (.int a1), some (.int a2), some (.int a3), some (.int a4), some (.int a5), some (.int (a5 + (if x2 = 0 then 10 else 10 - a3)))]) bd_64_104 (Nat.le_of_ble_eq_true rfl) rfl) ?_
      rfl
  · refine Eq.trans (be_iload bd_64_47 rfl) ?_
    refine Eq.trans (be_statI (as := [.int a6]) (rr := []) (en := [some (.int a6)]) bd_64_49 bm_2_125 rfl rfl rfl ⟨Nat.le_of_ble_eq_true rfl, Nat.le_of_ble_eq_true rfl, Nat.le_of_ble_eq_true rfl, Nat.le_of_ble_eq_true rfl⟩ (Or.inr rfl)) ?_
    refine bn_cI_c fun x4 h3 => ?_
    refine Eq.trans (be_if_eq (t := 70) bd_64_52 rfl) ?_
    refine bn_if_c ?_ ?_
    · refine Eq.trans (be_iinc (v := 1) (ls' := [some (.ref a0), some (.int a1), some (.int a2), some (.int a3), some (.int a4), some (.int a5), some (.int (a6 + 1))]) bd_64_70 rfl (by decide) (Nat.le_of_ble_eq_true rfl) rfl) ?_
      refine Eq.trans (be_goto (t := 41) bd_64_73 rfl) ?_
      rfl
    · refine Eq.trans (be_iload bd_64_55 rfl) ?_
      refine Eq.trans (be_statI (as := [.int a6]) (rr := []) (en := [some (.int a6)]) bd_64_57 bm_2_128 rfl rfl rfl ⟨Nat.le_of_ble_eq_true rfl, Nat.le_of_ble_eq_true rfl, Nat.le_of_ble_eq_true rfl, Nat.le_of_ble_eq_true rfl⟩ (Or.inl rfl)) ?_
      refine bn_cI_c fun x6 h5 => ?_
      refine Eq.trans (be_iload_n bd_64_60 rfl) ?_
      refine Eq.trans (be_icmp_ne (t := 70) bd_64_61 rfl) ?_
      refine bn_if_c ?_ ?_
      · refine Eq.trans (be_iload bd_64_64 rfl) ?_
        refine Eq.trans (be_iload_n bd_64_66 rfl) ?_
        refine Eq.trans (be_iadd bd_64_67) ?_
        refine Eq.trans (be_istore (ls' := [some (.ref a0), some (.int a1), some (.int a2), some (.int a3), some (.int a4), some (.int (a5 + a3)), some (.int a6)]) bd_64_68 (Nat.le_of_ble_eq_true rfl) rfl) ?_
        refine Eq.trans (be_iinc (v := 1) (ls' := [some (.ref a0), some (.int a1), some (.int a2), some (.int a3), some (.int a4), some (.int (a5 + a3)), some (.int (a6 + 1))]) bd_64_70 rfl (by decide) (Nat.le_of_ble_eq_true rfl) rfl) ?_
        refine Eq.trans (be_goto (t := 41) bd_64_73 rfl) ?_
        rfl
      · refine Eq.trans (be_iinc (v := 1) (ls' := [some (.ref a0), some (.int a1), some (.int a2), some (.int a3), some (.int a4), some (.int a5), some (.int (a6 + 1))]) bd_64_70 rfl (by decide) (Nat.le_of_ble_eq_true rfl) rfl) ?_
        refine Eq.trans (be_goto (t := 41) bd_64_73 rfl) ?_
        rfl
theorem bs_X2_forged_106 (a0 : Nat) (a1 : Int32) (a2 : Int32) (a3 : Int32) (a4 : Int32) (a5 : Int32) (a6 : Int32) (h : bn_H) : bn_ev 64 106 [some (.ref a0), some (.int a1), some (.int a2), some (.int a3), some (.int a4), some (.int a5), some (.int a6)] [] h = if a6 = 0 then (some (some (.int (-3)), h)) else (bn_cJ (bn_ev 74 0 [some (.long a5.toInt64), none, some (.long a6.toInt64), none, some (.int a4), none, none] [] h) (fun y2 h1 => some (some (.int y2.toInt32), h1))) := by
  refine Eq.trans (be_iload bd_64_106 rfl) ?_
  refine Eq.trans (be_if_ne (t := 114) bd_64_108 rfl) ?_
  refine bn_if_c ?_ ?_
  · refine Eq.trans (be_bipush (v := (-3)) bd_64_111 (by decide)) ?_
    exact be_ireturn bd_64_113 rfl
  · refine Eq.trans (be_iload bd_64_114 rfl) ?_
    refine Eq.trans (be_i2l bd_64_116) ?_
    refine Eq.trans (be_iload bd_64_117 rfl) ?_
    refine Eq.trans (be_i2l bd_64_119) ?_
    refine Eq.trans (be_iload bd_64_120 rfl) ?_
    refine Eq.trans (be_statJ (as := [.int a4, .long a6.toInt64, .long a5.toInt64]) (rr := []) (en := [some (.long a5.toInt64), none, some (.long a6.toInt64), none, some (.int a4), none, none]) bd_64_122 bm_2_164 rfl rfl rfl ⟨Nat.le_of_ble_eq_true rfl, Nat.le_of_ble_eq_true rfl, Nat.le_of_ble_eq_true rfl, Nat.le_of_ble_eq_true rfl⟩ rfl) ?_
    refine bn_cJ_c fun y2 h1 => ?_
    refine Eq.trans (be_l2i bd_64_125) ?_
    exact be_ireturn bd_64_126 rfl
theorem bs_X2_help_0 (a0 : Nat) (a1 : Int32) (a2 : Int32) (h : bn_H) : bn_ev 65 0 [some (.ref a0), some (.int a1), some (.int a2), none, none, none, none, none, none, none] [] h = if a1 < 0 then (some (some (.long (-2)), h)) else (if a1 ≤ 10 then (bn_gR h a0 2 1 (fun p1 => bn_gd (bn_isC h p1 0) (bn_cI (bn_ev 11 0 [some (.ref p1)] [] h) (fun x3 h2 => if x3 = 0 then (some (some (.long (-3)), h2)) else (bn_gd (bn_isC h2 a0 2) (bn_cI (bn_ev 71 0 [some (.ref a0), none] [] h2) (fun x5 h4 => bn_ev 65 59 [some (.ref a0), some (.int a1), some (.int a2), some (.int x5), some (.int (if x5 = (-9) then 199 else x5 - 1)), some (.long 1), none, some (.long 1), none, some (.int 0)] [] h4))))))) else (some (some (.long (-2)), h))) := by
  refine Eq.trans (be_iload_n bd_65_0 rfl) ?_
  refine Eq.trans (be_if_lt (t := 10) bd_65_1 rfl) ?_
  refine bn_if_c ?_ ?_
  · refine Eq.trans (be_ldc2w (v := (-2)) bd_65_10 rfl) ?_
    exact be_lreturn bd_65_13 rfl
  · refine Eq.trans (be_iload_n bd_65_4 rfl) ?_
    refine Eq.trans (be_bipush (v := 10) bd_65_5 (by decide)) ?_
    refine Eq.trans (be_icmp_le (t := 14) bd_65_7 rfl) ?_
    refine bn_if_c ?_ ?_
    · refine Eq.trans (be_aload_n bd_65_14 rfl) ?_
      refine Eq.trans (be_getR bd_65_15 bf_2_19 rfl (Or.inr ⟨_, rfl⟩)) ?_
      refine bn_gR_c fun p1 => ?_
      refine Eq.trans (be_virtI (as := []) (rr := []) (en := [some (.ref p1)]) bd_65_18 bm_2_135 rfl rfl rfl ⟨Nat.le_of_ble_eq_true rfl, Nat.le_of_ble_eq_true rfl, Nat.le_of_ble_eq_true rfl, Nat.le_of_ble_eq_true rfl⟩ (Or.inl rfl)) ?_
      refine bn_gd_c (bn_cI_c fun x3 h2 => ?_)
      refine Eq.trans (be_if_ne (t := 28) bd_65_21 rfl) ?_
      refine bn_if_c ?_ ?_
      · refine Eq.trans (be_ldc2w (v := (-3)) bd_65_24 rfl) ?_
        exact be_lreturn bd_65_27 rfl
      · refine Eq.trans (be_aload_n bd_65_28 rfl) ?_
        refine Eq.trans (be_virtI (as := []) (rr := []) (en := [some (.ref a0), none]) bd_65_29 bm_2_152 rfl rfl rfl ⟨Nat.le_of_ble_eq_true rfl, Nat.le_of_ble_eq_true rfl, Nat.le_of_ble_eq_true rfl, Nat.le_of_ble_eq_true rfl⟩ (Or.inl rfl)) ?_
        refine bn_gd_c (bn_cI_c fun x5 h4 => ?_)
        refine Eq.trans (be_istore_n (ls' := [some (.ref a0), some (.int a1), some (.int a2), some (.int x5), none, none, none, none, none, none]) bd_65_32 (Nat.le_of_ble_eq_true rfl) rfl) ?_
        refine Eq.trans (be_iload_n bd_65_33 rfl) ?_
        refine Eq.trans (be_bipush (v := (-9)) bd_65_34 (by decide)) ?_
        refine Eq.trans (be_icmp_ne (t := 45) bd_65_36 rfl) ?_
        refine Eq.trans (bn_dia (J := 48) (a := 199) (b := x5 - 1) (by
      refine Eq.trans (be_sipush (v := 199) bd_65_39 (by decide)) ?_
      refine Eq.trans (be_goto (t := 48) bd_65_42 rfl) ?_
      rfl) (by
      refine Eq.trans (be_iload_n bd_65_45 rfl) ?_
      refine Eq.trans (be_iconst (v := 1) bd_65_46 (by decide)) ?_
      refine Eq.trans (be_isub bd_65_47) ?_
      rfl)) ?_
        refine Eq.trans (be_istore (ls' := [some (.ref a0), some (.int a1), some (.int a2), some (.int x5), some (.int (if x5 = (-9) then 199 else x5 - 1)), none, none, none, none, none]) bd_65_48 (Nat.le_of_ble_eq_true rfl) rfl) ?_
        refine Eq.trans (be_lconst (v := 1) bd_65_50 (by decide)) ?_
        refine Eq.trans (be_lstore (ls' := [some (.ref a0), some (.int a1), some (.int a2), some (.int x5), some (.int (if x5 = (-9) then 199 else x5 - 1)), some (.long 1), none, none, none, none]) bd_65_51 (Nat.le_of_ble_eq_true rfl) rfl) ?_
        refine Eq.trans (be_lconst (v := 1) bd_65_53 (by decide)) ?_
        refine Eq.trans (be_lstore (ls' := [some (.ref a0), some (.int a1), some (.int a2), some (.int x5), some (.int (if x5 = (-9) then 199 else x5 - 1)), some (.long 1), none, some (.long 1), none, none]) bd_65_54 (Nat.le_of_ble_eq_true rfl) rfl) ?_
        refine Eq.trans (be_iconst (v := 0) bd_65_56 (by decide)) ?_
        refine Eq.trans (be_istore (ls' := [some (.ref a0), some (.int a1), some (.int a2), some (.int x5), some (.int (if x5 = (-9) then 199 else x5 - 1)), some (.long 1), none, some (.long 1), none, some (.int 0)]) bd_65_57 (Nat.le_of_ble_eq_true rfl) rfl) ?_
        rfl
    · refine Eq.trans (be_ldc2w (v := (-2)) bd_65_10 rfl) ?_
      exact be_lreturn bd_65_13 rfl
theorem bs_X2_help_59 (a0 : Nat) (a1 : Int32) (a2 : Int32) (a3 : Int32) (a4 : Int32) (a5 : Int64) (a7 : Int64) (a9 : Int32) (h : bn_H) : bn_ev 65 59 [some (.ref a0), some (.int a1), some (.int a2), some (.int a3), some (.int a4), some (.long a5), none, some (.long a7), none, some (.int a9)] [] h = if a4 ≤ a9 then (bn_cJ (bn_ev 74 0 [some (.long (a5 - a7)), none, some (.long a5), none, some (.int a2), none, none] [] h) (fun y2 h1 => some (some (.long y2), h1))) else (if 18 ≤ a9 then (bn_cJ (bn_ev 74 0 [some (.long (a5 - a7)), none, some (.long a5), none, some (.int a2), none, none] [] h) (fun y4 h3 => some (some (.long y4), h3))) else (bn_ev 65 59 [some (.ref a0), some (.int a1), some (.int a2), some (.int a3), some (.int a4), some (.long (a5 * 10)), none, some (.long (a7 * ((10 - a1 : Int32).toInt64))), none, some (.int (a9 + 1))] [] h)) := by
  refine Eq.trans (be_iload bd_65_59 rfl) ?_
  refine Eq.trans (be_iload bd_65_61 rfl) ?_
  refine Eq.trans (be_icmp_ge (t := 97) bd_65_63 rfl) ?_
  refine bn_if_c ?_ ?_
  · refine Eq.trans (be_lload bd_65_97 rfl) ?_
    refine Eq.trans (be_lload bd_65_99 rfl) ?_
    refine Eq.trans (be_lsub bd_65_101) ?_
    refine Eq.trans (be_lload bd_65_102 rfl) ?_
    refine Eq.trans (be_iload_n bd_65_104 rfl) ?_
    refine Eq.trans (be_statJ (as := [.int a2, .long a5, .long (a5 - a7)]) (rr := []) (en := [some (.long (a5 - a7)), none, some (.long a5), none, some (.int a2), none, none]) bd_65_105 bm_2_164 rfl rfl rfl ⟨Nat.le_of_ble_eq_true rfl, Nat.le_of_ble_eq_true rfl, Nat.le_of_ble_eq_true rfl, Nat.le_of_ble_eq_true rfl⟩ rfl) ?_
    refine bn_cJ_c fun y2 h1 => ?_
    exact be_lreturn bd_65_108 rfl
  · refine Eq.trans (be_iload bd_65_66 rfl) ?_
    refine Eq.trans (be_bipush (v := 18) bd_65_68 (by decide)) ?_
    refine Eq.trans (be_icmp_ge (t := 97) bd_65_70 rfl) ?_
    refine bn_if_c ?_ ?_
    · refine Eq.trans (be_lload bd_65_97 rfl) ?_
      refine Eq.trans (be_lload bd_65_99 rfl) ?_
      refine Eq.trans (be_lsub bd_65_101) ?_
      refine Eq.trans (be_lload bd_65_102 rfl) ?_
      refine Eq.trans (be_iload_n bd_65_104 rfl) ?_
      refine Eq.trans (be_statJ (as := [.int a2, .long a5, .long (a5 - a7)]) (rr := []) (en := [some (.long (a5 - a7)), none, some (.long a5), none, some (.int a2), none, none]) bd_65_105 bm_2_164 rfl rfl rfl ⟨Nat.le_of_ble_eq_true rfl, Nat.le_of_ble_eq_true rfl, Nat.le_of_ble_eq_true rfl, Nat.le_of_ble_eq_true rfl⟩ rfl) ?_
      refine bn_cJ_c fun y4 h3 => ?_
      exact be_lreturn bd_65_108 rfl
    · refine Eq.trans (be_lload bd_65_73 rfl) ?_
      refine Eq.trans (be_ldc2w (v := 10) bd_65_75 rfl) ?_
      refine Eq.trans (be_lmul bd_65_78) ?_
      refine Eq.trans (be_lstore (ls' := [some (.ref a0), some (.int a1), some (.int a2), some (.int a3), some (.int a4), some (.long (a5 * 10)), none, some (.long a7), none, some (.int a9)]) bd_65_79 (Nat.le_of_ble_eq_true rfl) rfl) ?_
      refine Eq.trans (be_lload bd_65_81 rfl) ?_
      refine Eq.trans (be_bipush (v := 10) bd_65_83 (by decide)) ?_
      refine Eq.trans (be_iload_n bd_65_85 rfl) ?_
      refine Eq.trans (be_isub bd_65_86) ?_
      refine Eq.trans (be_i2l bd_65_87) ?_
      refine Eq.trans (be_lmul bd_65_88) ?_
      refine Eq.trans (be_lstore (ls' := [some (.ref a0), some (.int a1), some (.int a2), some (.int a3), some (.int a4), some (.long (a5 * 10)), none, some (.long (a7 * ((10 - a1 : Int32).toInt64))), none, some (.int a9)]) bd_65_89 (Nat.le_of_ble_eq_true rfl) rfl) ?_
      refine Eq.trans (be_iinc (v := 1) (ls' := [some (.ref a0), some (.int a1), some (.int a2), some (.int a3), some (.int a4), some (.long (a5 * 10)), none, some (.long (a7 * ((10 - a1 : Int32).toInt64))), none, some (.int (a9 + 1))]) bd_65_91 rfl (by decide) (Nat.le_of_ble_eq_true rfl) rfl) ?_
      refine Eq.trans (be_goto (t := 59) bd_65_94 rfl) ?_
      rfl
theorem bs_X2_keep_0 (a0 : Nat) (a1 : Int32) (h : bn_H) : bn_ev 66 0 [some (.ref a0), some (.int a1)] [] h = if a1 < 0 then (some (some (.int (-1)), h)) else (if a1 < 2 then (bn_gR h a0 2 6 (fun p1 => (bn_rld h p1 a1).bind (fun p2 => bn_gR h a0 2 1 (fun p3 => bn_gd (bn_isC h p2 0) (bn_cV (bn_ev 4 0 [some (.ref p2), some (.ref p3), none] [] h) (fun h4 => bn_gR h4 a0 2 7 (fun p6 => (bn_sd h4 p6 1 a1 (vp_nar .boolean 1)).bind (fun h7 => bn_gR h7 a0 2 1 (fun p8 => bn_gI h7 p8 0 3 (fun x9 => some (some (.int x9), h7))))))))))) else (some (some (.int (-1)), h))) := by
  refine Eq.trans (be_iload_n bd_66_0 rfl) ?_
  refine Eq.trans (be_if_lt (t := 9) bd_66_1 rfl) ?_
  refine bn_if_c ?_ ?_
  · refine Eq.trans (be_iconst (v := (-1)) bd_66_9 (by decide)) ?_
    exact be_ireturn bd_66_10 rfl
  · refine Eq.trans (be_iload_n bd_66_4 rfl) ?_
    refine Eq.trans (be_iconst (v := 2) bd_66_5 (by decide)) ?_
    refine Eq.trans (be_icmp_lt (t := 11) bd_66_6 rfl) ?_
    refine bn_if_c ?_ ?_
    · refine Eq.trans (be_aload_n bd_66_11 rfl) ?_
      refine Eq.trans (be_getR bd_66_12 bf_2_37 rfl (Or.inl ⟨_, rfl⟩)) ?_
      refine bn_gR_c fun p1 => ?_
      refine Eq.trans (be_iload_n bd_66_15 rfl) ?_
      refine Eq.trans (be_aaload bd_66_16) ?_
      refine bn_bd_c fun p2 => ?_
      refine Eq.trans (be_aload_n bd_66_17 rfl) ?_
      refine Eq.trans (be_getR bd_66_18 bf_2_19 rfl (Or.inr ⟨_, rfl⟩)) ?_
      refine bn_gR_c fun p3 => ?_
      refine Eq.trans (be_virtV (as := [.ref p3]) (rr := []) (en := [some (.ref p2), some (.ref p3), none]) bd_66_21 bm_2_59 rfl rfl rfl ⟨Nat.le_of_ble_eq_true rfl, Nat.le_of_ble_eq_true rfl, Nat.le_of_ble_eq_true rfl, Nat.le_of_ble_eq_true rfl⟩ rfl) ?_
      refine bn_gd_c (bn_cV_c fun h4 => ?_)
      refine Eq.trans (be_aload_n bd_66_24 rfl) ?_
      refine Eq.trans (be_getR bd_66_25 bf_2_40 rfl (Or.inl ⟨_, rfl⟩)) ?_
      refine bn_gR_c fun p6 => ?_
      refine Eq.trans (be_iload_n bd_66_28 rfl) ?_
      refine Eq.trans (be_iconst (v := 1) bd_66_29 (by decide)) ?_
      refine Eq.trans (be_bastore bd_66_30) ?_
      refine bn_bd_c fun h7 => ?_
      refine Eq.trans (be_aload_n bd_66_31 rfl) ?_
      refine Eq.trans (be_getR bd_66_32 bf_2_19 rfl (Or.inr ⟨_, rfl⟩)) ?_
      refine bn_gR_c fun p8 => ?_
      refine Eq.trans (be_getI bd_66_35 bf_2_174 rfl) ?_
      refine bn_gI_c fun x9 => ?_
      exact be_ireturn bd_66_38 rfl
    · refine Eq.trans (be_iconst (v := (-1)) bd_66_9 (by decide)) ?_
      exact be_ireturn bd_66_10 rfl
theorem bs_X2_again_0 (a0 : Nat) (a1 : Int32) (h : bn_H) : bn_ev 67 0 [some (.ref a0), some (.int a1)] [] h = if a1 < 0 then (some (some (.int (-1)), h)) else (if a1 < 2 then (bn_gR h a0 2 7 (fun p1 => (bn_ld h p1 1 a1).bind (fun x2 => if x2 = 0 then (some (some (.int (-3)), h)) else (bn_gR h a0 2 1 (fun p3 => bn_gR h a0 2 6 (fun p4 => (bn_rld h p4 a1).bind (fun p5 => bn_gd (bn_isC h p3 0) (bn_cV (bn_ev 4 0 [some (.ref p3), some (.ref p5), none] [] h) (fun h6 => bn_gd (bn_isC h6 a0 2) (bn_cV (bn_ev 70 0 [some (.ref a0)] [] h6) (fun h8 => bn_gR h8 a0 2 1 (fun p10 => bn_gI h8 p10 0 3 (fun x11 => some (some (.int x11), h8)))))))))))))) else (some (some (.int (-1)), h))) := by
  refine Eq.trans (be_iload_n bd_67_0 rfl) ?_
  refine Eq.trans (be_if_lt (t := 9) bd_67_1 rfl) ?_
  refine bn_if_c ?_ ?_
  · refine Eq.trans (be_iconst (v := (-1)) bd_67_9 (by decide)) ?_
    exact be_ireturn bd_67_10 rfl
  · refine Eq.trans (be_iload_n bd_67_4 rfl) ?_
    refine Eq.trans (be_iconst (v := 2) bd_67_5 (by decide)) ?_
    refine Eq.trans (be_icmp_lt (t := 11) bd_67_6 rfl) ?_
    refine bn_if_c ?_ ?_
    · refine Eq.trans (be_aload_n bd_67_11 rfl) ?_
      refine Eq.trans (be_getR bd_67_12 bf_2_40 rfl (Or.inl ⟨_, rfl⟩)) ?_
      refine bn_gR_c fun p1 => ?_
      refine Eq.trans (be_iload_n bd_67_15 rfl) ?_
      refine Eq.trans (be_baload bd_67_16) ?_
      refine bn_bd_c fun x2 => ?_
      refine Eq.trans (be_if_ne (t := 23) bd_67_17 rfl) ?_
      refine bn_if_c ?_ ?_
      · refine Eq.trans (be_bipush (v := (-3)) bd_67_20 (by decide)) ?_
        exact be_ireturn bd_67_22 rfl
      · refine Eq.trans (be_aload_n bd_67_23 rfl) ?_
        refine Eq.trans (be_getR bd_67_24 bf_2_19 rfl (Or.inr ⟨_, rfl⟩)) ?_
        refine bn_gR_c fun p3 => ?_
        refine Eq.trans (be_aload_n bd_67_27 rfl) ?_
        refine Eq.trans (be_getR bd_67_28 bf_2_37 rfl (Or.inl ⟨_, rfl⟩)) ?_
        refine bn_gR_c fun p4 => ?_
        refine Eq.trans (be_iload_n bd_67_31 rfl) ?_
        refine Eq.trans (be_aaload bd_67_32) ?_
        refine bn_bd_c fun p5 => ?_
        refine Eq.trans (be_virtV (as := [.ref p5]) (rr := []) (en := [some (.ref p3), some (.ref p5), none]) bd_67_33 bm_2_59 rfl rfl rfl ⟨Nat.le_of_ble_eq_true rfl, Nat.le_of_ble_eq_true rfl, Nat.le_of_ble_eq_true rfl, Nat.le_of_ble_eq_true rfl⟩ rfl) ?_
        refine bn_gd_c (bn_cV_c fun h6 => ?_)
        refine Eq.trans (be_aload_n bd_67_36 rfl) ?_
        refine Eq.trans (be_virtV (as := []) (rr := []) (en := [some (.ref a0)]) bd_67_37 bm_2_63 rfl rfl rfl ⟨Nat.le_of_ble_eq_true rfl, Nat.le_of_ble_eq_true rfl, Nat.le_of_ble_eq_true rfl, Nat.le_of_ble_eq_true rfl⟩ rfl) ?_
        refine bn_gd_c (bn_cV_c fun h8 => ?_)
        refine Eq.trans (be_aload_n bd_67_40 rfl) ?_
        refine Eq.trans (be_getR bd_67_41 bf_2_19 rfl (Or.inr ⟨_, rfl⟩)) ?_
        refine bn_gR_c fun p10 => ?_
        refine Eq.trans (be_getI bd_67_44 bf_2_174 rfl) ?_
        refine bn_gI_c fun x11 => ?_
        exact be_ireturn bd_67_47 rfl
    · refine Eq.trans (be_iconst (v := (-1)) bd_67_9 (by decide)) ?_
      exact be_ireturn bd_67_10 rfl
theorem bs_X2_count_0 (a0 : Nat) (a1 : Int32) (h : bn_H) : bn_ev 68 0 [some (.ref a0), some (.int a1)] [] h = if a1 = 0 then (bn_gR h a0 2 0 (fun p1 => bn_gI h p1 1 1 (fun x2 => some (some (.int x2), h)))) else (if a1 = 1 then (bn_gR h a0 2 1 (fun p3 => bn_gI h p3 0 5 (fun x4 => some (some (.int x4), h)))) else (if a1 = 2 then (bn_gR h a0 2 1 (fun p5 => bn_gI h p5 0 9 (fun x6 => some (some (.int x6), h)))) else (if a1 = 3 then (bn_gR h a0 2 1 (fun p7 => bn_gd (bn_isC h p7 0) (bn_cI (bn_ev 10 0 [some (.ref p7), none, none] [] h) (fun x9 h8 => some (some (.int x9), h8))))) else (if a1 = 4 then (bn_gR h a0 2 1 (fun p10 => bn_gI h p10 0 3 (fun x11 => some (some (.int x11), h)))) else (if a1 = 5 then (bn_gR h a0 2 1 (fun p12 => bn_gd (bn_isC h p12 0) (bn_cI (bn_ev 17 0 [some (.ref p12), none, none] [] h) (fun x14 h13 => some (some (.int x14), h13))))) else (if a1 = 6 then (bn_gR h a0 2 1 (fun p15 => bn_gd (bn_isC h p15 0) (bn_cI (bn_ev 18 0 [some (.ref p15), none, none] [] h) (fun x17 h16 => some (some (.int x17), h16))))) else (if a1 = 7 then (bn_gI h a0 2 5 (fun x18 => some (some (.int x18), h))) else (if a1 = 8 then (bn_gR h a0 2 1 (fun p19 => bn_gd (bn_isC h p19 0) (bn_cI (bn_ev 21 0 [some (.ref p19), none, none, none] [] h) (fun x21 h20 => some (some (.int x21), h20))))) else (if a1 = 9 then (bn_gR h a0 2 1 (fun p22 => bn_gI h p22 0 0 (fun x23 => some (some (.int x23), h)))) else (some (some (.int (-2)), h))))))))))) := by
  refine Eq.trans (be_iload_n bd_68_0 rfl) ?_
  refine bn_sw (x := a1) (v := 0) (fun he => ?_) (fun hn0 => ?_)
  · rw [he]
    refine Eq.trans (be_tabin (off := 55) (t := 56) bd_68_1 (by decide) rfl rfl) ?_
    refine Eq.trans (be_aload_n bd_68_56 rfl) ?_
    refine Eq.trans (be_getR bd_68_57 bf_2_12 rfl (Or.inr ⟨_, rfl⟩)) ?_
    refine bn_gR_c fun p1 => ?_
    refine Eq.trans (be_getI bd_68_60 bf_2_44 rfl) ?_
    refine bn_gI_c fun x2 => ?_
    exact be_ireturn bd_68_63 rfl
  refine bn_sw (x := a1) (v := 1) (fun he => ?_) (fun hn1 => ?_)
  · rw [he]
    refine Eq.trans (be_tabin (off := 63) (t := 64) bd_68_1 (by decide) rfl rfl) ?_
    refine Eq.trans (be_aload_n bd_68_64 rfl) ?_
    refine Eq.trans (be_getR bd_68_65 bf_2_19 rfl (Or.inr ⟨_, rfl⟩)) ?_
    refine bn_gR_c fun p3 => ?_
    refine Eq.trans (be_getI bd_68_68 bf_2_66 rfl) ?_
    refine bn_gI_c fun x4 => ?_
    exact be_ireturn bd_68_71 rfl
  refine bn_sw (x := a1) (v := 2) (fun he => ?_) (fun hn2 => ?_)
  · rw [he]
    refine Eq.trans (be_tabin (off := 71) (t := 72) bd_68_1 (by decide) rfl rfl) ?_
    refine Eq.trans (be_aload_n bd_68_72 rfl) ?_
    refine Eq.trans (be_getR bd_68_73 bf_2_19 rfl (Or.inr ⟨_, rfl⟩)) ?_
    refine bn_gR_c fun p5 => ?_
    refine Eq.trans (be_getI bd_68_76 bf_2_69 rfl) ?_
    refine bn_gI_c fun x6 => ?_
    exact be_ireturn bd_68_79 rfl
  refine bn_sw (x := a1) (v := 3) (fun he => ?_) (fun hn3 => ?_)
  · rw [he]
    refine Eq.trans (be_tabin (off := 79) (t := 80) bd_68_1 (by decide) rfl rfl) ?_
    refine Eq.trans (be_aload_n bd_68_80 rfl) ?_
    refine Eq.trans (be_getR bd_68_81 bf_2_19 rfl (Or.inr ⟨_, rfl⟩)) ?_
    refine bn_gR_c fun p7 => ?_
    refine Eq.trans (be_virtI (as := []) (rr := []) (en := [some (.ref p7), none, none]) bd_68_84 bm_2_177 rfl rfl rfl ⟨Nat.le_of_ble_eq_true rfl, Nat.le_of_ble_eq_true rfl, Nat.le_of_ble_eq_true rfl, Nat.le_of_ble_eq_true rfl⟩ (Or.inl rfl)) ?_
    refine bn_gd_c (bn_cI_c fun x9 h8 => ?_)
    exact be_ireturn bd_68_87 rfl
  refine bn_sw (x := a1) (v := 4) (fun he => ?_) (fun hn4 => ?_)
  · rw [he]
    refine Eq.trans (be_tabin (off := 87) (t := 88) bd_68_1 (by decide) rfl rfl) ?_
    refine Eq.trans (be_aload_n bd_68_88 rfl) ?_
    refine Eq.trans (be_getR bd_68_89 bf_2_19 rfl (Or.inr ⟨_, rfl⟩)) ?_
    refine bn_gR_c fun p10 => ?_
    refine Eq.trans (be_getI bd_68_92 bf_2_174 rfl) ?_
    refine bn_gI_c fun x11 => ?_
    exact be_ireturn bd_68_95 rfl
  refine bn_sw (x := a1) (v := 5) (fun he => ?_) (fun hn5 => ?_)
  · rw [he]
    refine Eq.trans (be_tabin (off := 95) (t := 96) bd_68_1 (by decide) rfl rfl) ?_
    refine Eq.trans (be_aload_n bd_68_96 rfl) ?_
    refine Eq.trans (be_getR bd_68_97 bf_2_19 rfl (Or.inr ⟨_, rfl⟩)) ?_
    refine bn_gR_c fun p12 => ?_
    refine Eq.trans (be_virtI (as := []) (rr := []) (en := [some (.ref p12), none, none]) bd_68_100 bm_2_180 rfl rfl rfl ⟨Nat.le_of_ble_eq_true rfl, Nat.le_of_ble_eq_true rfl, Nat.le_of_ble_eq_true rfl, Nat.le_of_ble_eq_true rfl⟩ (Or.inl rfl)) ?_
    refine bn_gd_c (bn_cI_c fun x14 h13 => ?_)
    exact be_ireturn bd_68_103 rfl
  refine bn_sw (x := a1) (v := 6) (fun he => ?_) (fun hn6 => ?_)
  · rw [he]
    refine Eq.trans (be_tabin (off := 103) (t := 104) bd_68_1 (by decide) rfl rfl) ?_
    refine Eq.trans (be_aload_n bd_68_104 rfl) ?_
    refine Eq.trans (be_getR bd_68_105 bf_2_19 rfl (Or.inr ⟨_, rfl⟩)) ?_
    refine bn_gR_c fun p15 => ?_
    refine Eq.trans (be_virtI (as := []) (rr := []) (en := [some (.ref p15), none, none]) bd_68_108 bm_2_183 rfl rfl rfl ⟨Nat.le_of_ble_eq_true rfl, Nat.le_of_ble_eq_true rfl, Nat.le_of_ble_eq_true rfl, Nat.le_of_ble_eq_true rfl⟩ (Or.inl rfl)) ?_
    refine bn_gd_c (bn_cI_c fun x17 h16 => ?_)
    exact be_ireturn bd_68_111 rfl
  refine bn_sw (x := a1) (v := 7) (fun he => ?_) (fun hn7 => ?_)
  · rw [he]
    refine Eq.trans (be_tabin (off := 111) (t := 112) bd_68_1 (by decide) rfl rfl) ?_
    refine Eq.trans (be_aload_n bd_68_112 rfl) ?_
    refine Eq.trans (be_getI bd_68_113 bf_2_34 rfl) ?_
    refine bn_gI_c fun x18 => ?_
    exact be_ireturn bd_68_116 rfl
  refine bn_sw (x := a1) (v := 8) (fun he => ?_) (fun hn8 => ?_)
  · rw [he]
    refine Eq.trans (be_tabin (off := 116) (t := 117) bd_68_1 (by decide) rfl rfl) ?_
    refine Eq.trans (be_aload_n bd_68_117 rfl) ?_
    refine Eq.trans (be_getR bd_68_118 bf_2_19 rfl (Or.inr ⟨_, rfl⟩)) ?_
    refine bn_gR_c fun p19 => ?_
    refine Eq.trans (be_virtI (as := []) (rr := []) (en := [some (.ref p19), none, none, none]) bd_68_121 bm_2_186 rfl rfl rfl ⟨Nat.le_of_ble_eq_true rfl, Nat.le_of_ble_eq_true rfl, Nat.le_of_ble_eq_true rfl, Nat.le_of_ble_eq_true rfl⟩ (Or.inl rfl)) ?_
    refine bn_gd_c (bn_cI_c fun x21 h20 => ?_)
    exact be_ireturn bd_68_124 rfl
  refine bn_sw (x := a1) (v := 9) (fun he => ?_) (fun hn9 => ?_)
  · rw [he]
    refine Eq.trans (be_tabin (off := 124) (t := 125) bd_68_1 (by decide) rfl rfl) ?_
    refine Eq.trans (be_aload_n bd_68_125 rfl) ?_
    refine Eq.trans (be_getR bd_68_126 bf_2_19 rfl (Or.inr ⟨_, rfl⟩)) ?_
    refine bn_gR_c fun p22 => ?_
    refine Eq.trans (be_getI bd_68_129 bf_2_189 rfl) ?_
    refine bn_gI_c fun x23 => ?_
    exact be_ireturn bd_68_132 rfl
  have q0 : (a1).toInt ≠ 0 := fun q => hn0 (Int32.toInt_inj.mp (q.trans (by decide)))
  have q1 : (a1).toInt ≠ 1 := fun q => hn1 (Int32.toInt_inj.mp (q.trans (by decide)))
  have q2 : (a1).toInt ≠ 2 := fun q => hn2 (Int32.toInt_inj.mp (q.trans (by decide)))
  have q3 : (a1).toInt ≠ 3 := fun q => hn3 (Int32.toInt_inj.mp (q.trans (by decide)))
  have q4 : (a1).toInt ≠ 4 := fun q => hn4 (Int32.toInt_inj.mp (q.trans (by decide)))
  have q5 : (a1).toInt ≠ 5 := fun q => hn5 (Int32.toInt_inj.mp (q.trans (by decide)))
  have q6 : (a1).toInt ≠ 6 := fun q => hn6 (Int32.toInt_inj.mp (q.trans (by decide)))
  have q7 : (a1).toInt ≠ 7 := fun q => hn7 (Int32.toInt_inj.mp (q.trans (by decide)))
  have q8 : (a1).toInt ≠ 8 := fun q => hn8 (Int32.toInt_inj.mp (q.trans (by decide)))
  have q9 : (a1).toInt ≠ 9 := fun q => hn9 (Int32.toInt_inj.mp (q.trans (by decide)))
  refine Eq.trans (be_tabout (t := 133) bd_68_1 (by omega) rfl) ?_
  refine Eq.trans (be_bipush (v := (-2)) bd_68_133 (by decide)) ?_
  exact be_ireturn bd_68_135 rfl
theorem bs_X2_rememberAct_0 (a0 : Nat) (h : bn_H) : bn_ev 69 0 [some (.ref a0)] [] h = bn_gI h a0 2 5 (fun x1 => if x1 = 20 then (bn_gI h a0 2 4 (fun x2 => (bn_pf h a0 2 4 (.int (bn_rem (x2 + 1) 20))).bind (fun h3 => bn_gI h3 a0 2 5 (fun x4 => (bn_pf h3 a0 2 5 (.int (x4 - 1))).bind (fun h5 => bn_ev 69 32 [some (.ref a0)] [] h5))))) else (bn_ev 69 32 [some (.ref a0)] [] h)) := by
  refine Eq.trans (be_aload_n bd_69_0 rfl) ?_
  refine Eq.trans (be_getI bd_69_1 bf_2_34 rfl) ?_
  refine bn_gI_c fun x1 => ?_
  refine Eq.trans (be_bipush (v := 20) bd_69_4 (by decide)) ?_
  refine Eq.trans (be_icmp_ne (t := 32) bd_69_6 rfl) ?_
  refine bn_if_c ?_ ?_
  · refine Eq.trans (be_aload_n bd_69_9 rfl) ?_
    refine Eq.trans (be_aload_n bd_69_10 rfl) ?_
    refine Eq.trans (be_getI bd_69_11 bf_2_30 rfl) ?_
    refine bn_gI_c fun x2 => ?_
    refine Eq.trans (be_iconst (v := 1) bd_69_14 (by decide)) ?_
    refine Eq.trans (be_iadd bd_69_15) ?_
    refine Eq.trans (be_bipush (v := 20) bd_69_16 (by decide)) ?_
    refine Eq.trans (be_irem_c bd_69_18 (by decide)) ?_
    refine Eq.trans (be_putI bd_69_19 bf_2_30 rfl rfl) ?_
    refine bn_bd_c fun h3 => ?_
    refine Eq.trans (be_aload_n bd_69_22 rfl) ?_
    refine Eq.trans (be_dup bd_69_23 rfl) ?_
    refine Eq.trans (be_getI bd_69_24 bf_2_34 rfl) ?_
    refine bn_gI_c fun x4 => ?_
    refine Eq.trans (be_iconst (v := 1) bd_69_27 (by decide)) ?_
    refine Eq.trans (be_isub bd_69_28) ?_
    refine Eq.trans (be_putI bd_69_29 bf_2_34 rfl rfl) ?_
    refine bn_bd_c fun h5 => ?_
    rfl
  · rfl
theorem bs_X2_rememberAct_32 (a0 : Nat) (h : bn_H) : bn_ev 69 32 [some (.ref a0)] [] h = bn_gR h a0 2 3 (fun p1 => bn_gI h a0 2 4 (fun x2 => bn_gI h a0 2 5 (fun x3 => (bn_rld h p1 (bn_rem (x2 + x3) 20)).bind (fun p4 => bn_gR h a0 2 1 (fun p5 => bn_gd (bn_isC h p4 0) (bn_cV (bn_ev 4 0 [some (.ref p4), some (.ref p5), none] [] h) (fun h6 => bn_gI h6 a0 2 5 (fun x8 => (bn_pf h6 a0 2 5 (.int (x8 + 1))).bind (fun h9 => some (none, h9)))))))))) := by
  refine Eq.trans (be_aload_n bd_69_32 rfl) ?_
  refine Eq.trans (be_getR bd_69_33 bf_2_26 rfl (Or.inl ⟨_, rfl⟩)) ?_
  refine bn_gR_c fun p1 => ?_
  refine Eq.trans (be_aload_n bd_69_36 rfl) ?_
  refine Eq.trans (be_getI bd_69_37 bf_2_30 rfl) ?_
  refine bn_gI_c fun x2 => ?_
  refine Eq.trans (be_aload_n bd_69_40 rfl) ?_
  refine Eq.trans (be_getI bd_69_41 bf_2_34 rfl) ?_
  refine bn_gI_c fun x3 => ?_
  refine Eq.trans (be_iadd bd_69_44) ?_
  refine Eq.trans (be_bipush (v := 20) bd_69_45 (by decide)) ?_
  refine Eq.trans (be_irem_c bd_69_47 (by decide)) ?_
  refine Eq.trans (be_aaload bd_69_48) ?_
  refine bn_bd_c fun p4 => ?_
  refine Eq.trans (be_aload_n bd_69_49 rfl) ?_
  refine Eq.trans (be_getR bd_69_50 bf_2_19 rfl (Or.inr ⟨_, rfl⟩)) ?_
  refine bn_gR_c fun p5 => ?_
  refine Eq.trans (be_virtV (as := [.ref p5]) (rr := []) (en := [some (.ref p4), some (.ref p5), none]) bd_69_53 bm_2_59 rfl rfl rfl ⟨Nat.le_of_ble_eq_true rfl, Nat.le_of_ble_eq_true rfl, Nat.le_of_ble_eq_true rfl, Nat.le_of_ble_eq_true rfl⟩ rfl) ?_
  refine bn_gd_c (bn_cV_c fun h6 => ?_)
  refine Eq.trans (be_aload_n bd_69_56 rfl) ?_
  refine Eq.trans (be_dup bd_69_57 rfl) ?_
  refine Eq.trans (be_getI bd_69_58 bf_2_34 rfl) ?_
  refine bn_gI_c fun x8 => ?_
  refine Eq.trans (be_iconst (v := 1) bd_69_61 (by decide)) ?_
  refine Eq.trans (be_iadd bd_69_62) ?_
  refine Eq.trans (be_putI bd_69_63 bf_2_34 rfl rfl) ?_
  refine bn_bd_c fun h9 => ?_
  exact be_return bd_69_66 rfl
theorem bs_X2_forgetActs_0 (a0 : Nat) (h : bn_H) : bn_ev 70 0 [some (.ref a0)] [] h = (bn_pf h a0 2 4 (.int 0)).bind (fun h1 => (bn_pf h1 a0 2 5 (.int 0)).bind (fun h2 => some (none, h2))) := by
  refine Eq.trans (be_aload_n bd_70_0 rfl) ?_
  refine Eq.trans (be_iconst (v := 0) bd_70_1 (by decide)) ?_
  refine Eq.trans (be_putI bd_70_2 bf_2_30 rfl rfl) ?_
  refine bn_bd_c fun h1 => ?_
  refine Eq.trans (be_aload_n bd_70_5 rfl) ?_
  refine Eq.trans (be_iconst (v := 0) bd_70_6 (by decide)) ?_
  refine Eq.trans (be_putI bd_70_7 bf_2_34 rfl rfl) ?_
  refine bn_bd_c fun h2 => ?_
  exact be_return bd_70_10 rfl
theorem bs_X2_daysUntilDeath_0 (a0 : Nat) (h : bn_H) : bn_ev 71 0 [some (.ref a0), none] [] h = bn_gR h a0 2 1 (fun p1 => bn_gd (bn_isC h p1 0) (bn_cI (bn_ev 11 0 [some (.ref p1)] [] h) (fun x3 h2 => if x3 = 0 then (some (some (.int 0), h2)) else (bn_gR h2 a0 2 2 (fun p4 => bn_gR h2 a0 2 1 (fun p5 => bn_gd (bn_isC h2 p4 0) (bn_cV (bn_ev 4 0 [some (.ref p4), some (.ref p5), none] [] h2) (fun h6 => bn_ev 71 25 [some (.ref a0), some (.int 1)] [] h6)))))))) := by
  refine Eq.trans (be_aload_n bd_71_0 rfl) ?_
  refine Eq.trans (be_getR bd_71_1 bf_2_19 rfl (Or.inr ⟨_, rfl⟩)) ?_
  refine bn_gR_c fun p1 => ?_
  refine Eq.trans (be_virtI (as := []) (rr := []) (en := [some (.ref p1)]) bd_71_4 bm_2_135 rfl rfl rfl ⟨Nat.le_of_ble_eq_true rfl, Nat.le_of_ble_eq_true rfl, Nat.le_of_ble_eq_true rfl, Nat.le_of_ble_eq_true rfl⟩ (Or.inl rfl)) ?_
  refine bn_gd_c (bn_cI_c fun x3 h2 => ?_)
  refine Eq.trans (be_if_ne (t := 12) bd_71_7 rfl) ?_
  refine bn_if_c ?_ ?_
  · refine Eq.trans (be_iconst (v := 0) bd_71_10 (by decide)) ?_
    exact be_ireturn bd_71_11 rfl
  · refine Eq.trans (be_aload_n bd_71_12 rfl) ?_
    refine Eq.trans (be_getR bd_71_13 bf_2_23 rfl (Or.inr ⟨_, rfl⟩)) ?_
    refine bn_gR_c fun p4 => ?_
    refine Eq.trans (be_aload_n bd_71_16 rfl) ?_
    refine Eq.trans (be_getR bd_71_17 bf_2_19 rfl (Or.inr ⟨_, rfl⟩)) ?_
    refine bn_gR_c fun p5 => ?_
    refine Eq.trans (be_virtV (as := [.ref p5]) (rr := []) (en := [some (.ref p4), some (.ref p5), none]) bd_71_20 bm_2_59 rfl rfl rfl ⟨Nat.le_of_ble_eq_true rfl, Nat.le_of_ble_eq_true rfl, Nat.le_of_ble_eq_true rfl, Nat.le_of_ble_eq_true rfl⟩ rfl) ?_
    refine bn_gd_c (bn_cV_c fun h6 => ?_)
    refine Eq.trans (be_iconst (v := 1) bd_71_23 (by decide)) ?_
    refine Eq.trans (be_istore_n (ls' := [some (.ref a0), some (.int 1)]) bd_71_24 (Nat.le_of_ble_eq_true rfl) rfl) ?_
    rfl
theorem bs_X2_daysUntilDeath_25 (a0 : Nat) (a1 : Int32) (h : bn_H) : bn_ev 71 25 [some (.ref a0), some (.int a1)] [] h = if 200 < a1 then (some (some (.int (-9)), h)) else (bn_gR h a0 2 2 (fun p1 => bn_gd (bn_isC h p1 0) (bn_cV (bn_ev 27 0 [some (.ref p1), none, none] [] h) (fun h2 => bn_gR h2 a0 2 2 (fun p4 => bn_gd (bn_isC h2 p4 0) (bn_cI (bn_ev 25 0 [some (.ref p4), none, none] [] h2) (fun x6 h5 => if x6 = 0 then (bn_ev 71 25 [some (.ref a0), some (.int (a1 + 1))] [] h5) else (some (some (.int a1), h5))))))))) := by
  refine Eq.trans (be_iload_n bd_71_25 rfl) ?_
  refine Eq.trans (be_sipush (v := 200) bd_71_26 (by decide)) ?_
  refine Eq.trans (be_icmp_gt (t := 57) bd_71_29 rfl) ?_
  refine bn_if_c ?_ ?_
  · refine Eq.trans (be_bipush (v := (-9)) bd_71_57 (by decide)) ?_
    exact be_ireturn bd_71_59 rfl
  · refine Eq.trans (be_aload_n bd_71_32 rfl) ?_
    refine Eq.trans (be_getR bd_71_33 bf_2_23 rfl (Or.inr ⟨_, rfl⟩)) ?_
    refine bn_gR_c fun p1 => ?_
    refine Eq.trans (be_virtV (as := []) (rr := []) (en := [some (.ref p1), none, none]) bd_71_36 bm_2_192 rfl rfl rfl ⟨Nat.le_of_ble_eq_true rfl, Nat.le_of_ble_eq_true rfl, Nat.le_of_ble_eq_true rfl, Nat.le_of_ble_eq_true rfl⟩ rfl) ?_
    refine bn_gd_c (bn_cV_c fun h2 => ?_)
    refine Eq.trans (be_aload_n bd_71_39 rfl) ?_
    refine Eq.trans (be_getR bd_71_40 bf_2_23 rfl (Or.inr ⟨_, rfl⟩)) ?_
    refine bn_gR_c fun p4 => ?_
    refine Eq.trans (be_virtI (as := []) (rr := []) (en := [some (.ref p4), none, none]) bd_71_43 bm_2_131 rfl rfl rfl ⟨Nat.le_of_ble_eq_true rfl, Nat.le_of_ble_eq_true rfl, Nat.le_of_ble_eq_true rfl, Nat.le_of_ble_eq_true rfl⟩ (Or.inl rfl)) ?_
    refine bn_gd_c (bn_cI_c fun x6 h5 => ?_)
    refine Eq.trans (be_if_eq (t := 51) bd_71_46 rfl) ?_
    refine bn_if_c ?_ ?_
    · refine Eq.trans (be_iinc (v := 1) (ls' := [some (.ref a0), some (.int (a1 + 1))]) bd_71_51 rfl (by decide) (Nat.le_of_ble_eq_true rfl) rfl) ?_
      refine Eq.trans (be_goto (t := 25) bd_71_54 rfl) ?_
      rfl
    · refine Eq.trans (be_iload_n bd_71_49 rfl) ?_
      exact be_ireturn bd_71_50 rfl
theorem bs_X2_hasNine_0 (a0 : Int32) (h : bn_H) : bn_ev 72 0 [some (.int a0)] [] h = if (a0 / 10) = 9 then (some (some (.int 1), h)) else (if (bn_rem a0 10) = 9 then (some (some (.int 1), h)) else (some (some (.int 0), h))) := by
  refine Eq.trans (be_iload_n bd_72_0 rfl) ?_
  refine Eq.trans (be_bipush (v := 10) bd_72_1 (by decide)) ?_
  refine Eq.trans (be_idiv_c bd_72_3 (by decide)) ?_
  refine Eq.trans (be_bipush (v := 9) bd_72_4 (by decide)) ?_
  refine Eq.trans (be_icmp_eq (t := 18) bd_72_6 rfl) ?_
  refine bn_if_c ?_ ?_
  · refine Eq.trans (be_iconst (v := 1) bd_72_18 (by decide)) ?_
    refine Eq.trans (be_goto (t := 23) bd_72_19 rfl) ?_
    exact be_z0 bd_72_23 rfl (Or.inr rfl)
  · refine Eq.trans (be_iload_n bd_72_9 rfl) ?_
    refine Eq.trans (be_bipush (v := 10) bd_72_10 (by decide)) ?_
    refine Eq.trans (be_irem_c bd_72_12 (by decide)) ?_
    refine Eq.trans (be_bipush (v := 9) bd_72_13 (by decide)) ?_
    refine Eq.trans (be_icmp_ne (t := 22) bd_72_15 rfl) ?_
    refine bn_if_c ?_ ?_
    · refine Eq.trans (be_iconst (v := 1) bd_72_18 (by decide)) ?_
      refine Eq.trans (be_goto (t := 23) bd_72_19 rfl) ?_
      exact be_z0 bd_72_23 rfl (Or.inr rfl)
    · refine Eq.trans (be_iconst (v := 0) bd_72_22 (by decide)) ?_
      exact be_z0 bd_72_23 rfl (Or.inl rfl)
theorem bs_X2_whenCut_0 (a0 : Int32) (h : bn_H) : bn_ev 73 0 [some (.int a0)] [] h = some (some (.int (if (a0 / 10) = 9 then a0 - 30 else a0 - 3)), h) := by
  refine Eq.trans (be_iload_n bd_73_0 rfl) ?_
  refine Eq.trans (be_bipush (v := 10) bd_73_1 (by decide)) ?_
  refine Eq.trans (be_idiv_c bd_73_3 (by decide)) ?_
  refine Eq.trans (be_bipush (v := 9) bd_73_4 (by decide)) ?_
  refine Eq.trans (be_icmp_ne (t := 16) bd_73_6 rfl) ?_
  refine Eq.trans (bn_dia (J := 19) (a := a0 - 30) (b := a0 - 3) (by
      refine Eq.trans (be_iload_n bd_73_9 rfl) ?_
      refine Eq.trans (be_bipush (v := 30) bd_73_10 (by decide)) ?_
      refine Eq.trans (be_isub bd_73_12) ?_
      refine Eq.trans (be_goto (t := 19) bd_73_13 rfl) ?_
      rfl) (by
      refine Eq.trans (be_iload_n bd_73_16 rfl) ?_
      refine Eq.trans (be_iconst (v := 3) bd_73_17 (by decide)) ?_
      refine Eq.trans (be_isub bd_73_18) ?_
      rfl)) ?_
  exact be_ireturn bd_73_19 rfl
theorem bs_X2_partInLeastTerms_0 (a0 : Int64) (a2 : Int64) (a4 : Int32) (h : bn_H) : bn_ev 74 0 [some (.long a0), none, some (.long a2), none, some (.int a4), none, none] [] h = bn_cJ (bn_ev 75 0 [some (.long a0), none, some (.long a2), none, none, none, none] [] h) (fun y2 h1 => if (lg_cmp y2 0) = 0 then (some (some (.long (-9)), h1)) else (if a4 = 0 then (if y2 = 0 then none else (some (some (.long (a2 / y2)), h1))) else (if y2 = 0 then none else (some (some (.long (a0 / y2)), h1))))) := by
  refine Eq.trans (be_lload_n bd_74_0 rfl) ?_
  refine Eq.trans (be_lload_n bd_74_1 rfl) ?_
  refine Eq.trans (be_statJ (as := [.long a2, .long a0]) (rr := []) (en := [some (.long a0), none, some (.long a2), none, none, none, none]) bd_74_2 bm_2_195 rfl rfl rfl ⟨Nat.le_of_ble_eq_true rfl, Nat.le_of_ble_eq_true rfl, Nat.le_of_ble_eq_true rfl, Nat.le_of_ble_eq_true rfl⟩ rfl) ?_
  refine bn_cJ_c fun y2 h1 => ?_
  refine Eq.trans (be_lstore (ls' := [some (.long a0), none, some (.long a2), none, some (.int a4), some (.long y2), none]) bd_74_5 (Nat.le_of_ble_eq_true rfl) rfl) ?_
  refine Eq.trans (be_lload bd_74_7 rfl) ?_
  refine Eq.trans (be_lconst (v := 0) bd_74_9 (by decide)) ?_
  refine Eq.trans (be_lcmp bd_74_10) ?_
  refine Eq.trans (be_if_ne (t := 18) bd_74_11 rfl) ?_
  refine bn_if_c ?_ ?_
  · refine Eq.trans (be_ldc2w (v := (-9)) bd_74_14 rfl) ?_
    exact be_lreturn bd_74_17 rfl
  · refine Eq.trans (be_iload bd_74_18 rfl) ?_
    refine Eq.trans (be_if_eq (t := 30) bd_74_20 rfl) ?_
    refine bn_if_c ?_ ?_
    · refine Eq.trans (be_lload_n bd_74_30 rfl) ?_
      refine Eq.trans (be_lload bd_74_31 rfl) ?_
      refine Eq.trans (be_ldiv bd_74_33) ?_
      refine bn_if_c rfl ?_
      exact be_lreturn bd_74_34 rfl
    · refine Eq.trans (be_lload_n bd_74_23 rfl) ?_
      refine Eq.trans (be_lload bd_74_24 rfl) ?_
      refine Eq.trans (be_ldiv bd_74_26) ?_
      refine bn_if_c rfl ?_
      refine Eq.trans (be_goto (t := 34) bd_74_27 rfl) ?_
      exact be_lreturn bd_74_34 rfl
theorem bs_X2_greatestDivisor_0 (a0 : Int64) (a2 : Int64) (h : bn_H) : bn_ev 75 0 [some (.long a0), none, some (.long a2), none, none, none, none] [] h = bn_ev 75 3 [some (.long a0), none, some (.long a2), none, some (.int 0), none, none] [] h := by
  refine Eq.trans (be_iconst (v := 0) bd_75_0 (by decide)) ?_
  refine Eq.trans (be_istore (ls' := [some (.long a0), none, some (.long a2), none, some (.int 0), none, none]) bd_75_1 (Nat.le_of_ble_eq_true rfl) rfl) ?_
  rfl
theorem bs_X2_greatestDivisor_3 (a0 : Int64) (a2 : Int64) (a4 : Int32) (o5 : Option Value) (o6 : Option Value) (h : bn_H) : bn_ev 75 3 [some (.long a0), none, some (.long a2), none, some (.int a4), o5, o6] [] h = if 200 ≤ a4 then (some (some (.long a0), h)) else (if (lg_cmp a2 0) = 0 then (some (some (.long a0), h)) else (if a2 = 0 then none else (bn_ev 75 3 [some (.long a2), none, some (.long (bn_lrem a0 a2)), none, some (.int (a4 + 1)), some (.long (bn_lrem a0 a2)), none] [] h))) := by
  refine Eq.trans (be_iload bd_75_3 rfl) ?_
  refine Eq.trans (be_sipush (v := 200) bd_75_5 (by decide)) ?_
  refine Eq.trans (be_icmp_ge (t := 33) bd_75_8 rfl) ?_
  refine bn_if_c ?_ ?_
  · refine Eq.trans (be_lload_n bd_75_33 rfl) ?_
    exact be_lreturn bd_75_34 rfl
  · refine Eq.trans (be_lload_n bd_75_11 rfl) ?_
    refine Eq.trans (be_lconst (v := 0) bd_75_12 (by decide)) ?_
    refine Eq.trans (be_lcmp bd_75_13) ?_
    refine Eq.trans (be_if_eq (t := 33) bd_75_14 rfl) ?_
    refine bn_if_c ?_ ?_
    · refine Eq.trans (be_lload_n bd_75_33 rfl) ?_
      exact be_lreturn bd_75_34 rfl
    · refine Eq.trans (be_lload_n bd_75_17 rfl) ?_
      refine Eq.trans (be_lload_n bd_75_18 rfl) ?_
      refine Eq.trans (be_lrem bd_75_19) ?_
      refine bn_if_c rfl ?_
      refine Eq.trans (be_lstore (ls' := [some (.long a0), none, some (.long a2), none, some (.int a4), some (.long (bn_lrem a0 a2)), none]) bd_75_20 (Nat.le_of_ble_eq_true rfl) rfl) ?_
      refine Eq.trans (be_lload_n bd_75_22 rfl) ?_
      refine Eq.trans (be_lstore_n (ls' := [some (.long a2), none, some (.long a2), none, some (.int a4), some (.long (bn_lrem a0 a2)), none]) bd_75_23 (Nat.le_of_ble_eq_true rfl) rfl) ?_
      refine Eq.trans (be_lload bd_75_24 rfl) ?_
      refine Eq.trans (be_lstore_n (ls' := [some (.long a2), none, some (.long (bn_lrem a0 a2)), none, some (.int a4), some (.long (bn_lrem a0 a2)), none]) bd_75_26 (Nat.le_of_ble_eq_true rfl) rfl) ?_
      refine Eq.trans (be_iinc (v := 1) (ls' := [some (.long a2), none, some (.long (bn_lrem a0 a2)), none, some (.int (a4 + 1)), some (.long (bn_lrem a0 a2)), none]) bd_75_27 rfl (by decide) (Nat.le_of_ble_eq_true rfl) rfl) ?_
      refine Eq.trans (be_goto (t := 3) bd_75_30 rfl) ?_
      rfl
