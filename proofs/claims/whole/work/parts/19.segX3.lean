/-! segments: the model, further -/
theorem bs_X3_goBy_0 (a0 : Nat) (h : bn_H) : bn_ev 102 0 [some (.ref a0), none, none, none] [] h = bn_ev 102 4 [some (.ref a0), some (.int 0), some (.int 0), none] [] h := by
  refine Eq.trans (be_iconst (v := 0) bd_102_0 (by decide)) ?_
  refine Eq.trans (be_istore_n (ls' := [some (.ref a0), some (.int 0), none, none]) bd_102_1 (Nat.le_of_ble_eq_true rfl) rfl) ?_
  refine Eq.trans (be_iconst (v := 0) bd_102_2 (by decide)) ?_
  refine Eq.trans (be_istore_n (ls' := [some (.ref a0), some (.int 0), some (.int 0), none]) bd_102_3 (Nat.le_of_ble_eq_true rfl) rfl) ?_
  rfl
theorem bs_X3_goBy_4 (a0 : Nat) (a1 : Int32) (a2 : Int32) (o3 : Option Value) (h : bn_H) : bn_ev 102 4 [some (.ref a0), some (.int a1), some (.int a2), o3] [] h = bn_gI h a0 3 10 (fun x1 => if x1 ≤ a2 then (bn_ev 102 138 [some (.ref a0), some (.int a1), some (.int 0), o3] [] h) else (bn_gR h a0 3 6 (fun p2 => (bn_ld h p2 0 (4 * a2)).bind (fun x3 => bn_gR h a0 3 6 (fun p4 => (bn_ld h p4 0 ((4 * a2) + 1)).bind (fun x5 => if x5 = 1 then (bn_gR h a0 3 6 (fun p6 => (bn_ld h p6 0 ((4 * a2) + 2)).bind (fun x7 => if x7 = 0 then ((bn_sd h p2 0 (4 * a2) (x3 + 1)).bind (fun h8 => bn_gR h8 a0 3 6 (fun p9 => (bn_ld h8 p9 0 ((4 * a2) + 1)).bind (fun x10 => if x10 = 1 then (bn_gR h8 a0 3 6 (fun p11 => (bn_ld h8 p11 0 (4 * a2)).bind (fun x12 => bn_gI h8 a0 3 8 (fun x13 => if x12 ≤ x13 then (bn_ev 102 85 [some (.ref a0), some (.int a1), some (.int a2), some (.int (4 * a2))] [.int a1] h8) else (bn_gR h8 a0 3 6 (fun p14 => bn_gR h8 a0 3 6 (fun p15 => (bn_ld h8 p15 0 (4 * a2)).bind (fun x16 => bn_gI h8 a0 3 8 (fun x17 => if x16 ≤ x17 then (bn_gR h8 a0 3 6 (fun p18 => (bn_ld h8 p18 0 ((4 * a2) + 1)).bind (fun x19 => bn_ev 102 120 [some (.ref a0), some (.int (a1 ||| (bn_shl 1 a2))), some (.int a2), some (.int (4 * a2))] [.int x19, .int ((4 * a2) + 1), .ref p14] h8))) else (bn_ev 102 120 [some (.ref a0), some (.int (a1 ||| (bn_shl 1 a2))), some (.int a2), some (.int (4 * a2))] [.int 0, .int ((4 * a2) + 1), .ref p14] h8)))))))))) else (bn_ev 102 85 [some (.ref a0), some (.int a1), some (.int a2), some (.int (4 * a2))] [.int a1] h8))))) else (bn_ev 102 50 [some (.ref a0), some (.int a1), some (.int a2), some (.int (4 * a2))] [.int x3, .int (4 * a2), .ref p2] h)))) else (bn_ev 102 50 [some (.ref a0), some (.int a1), some (.int a2), some (.int (4 * a2))] [.int x3, .int (4 * a2), .ref p2] h))))))) := by
  refine Eq.trans (be_iload_n bd_102_4 rfl) ?_
  refine Eq.trans (be_aload_n bd_102_5 rfl) ?_
  refine Eq.trans (be_getI bd_102_6 bf_3_106 rfl) ?_
  refine bn_gI_c fun x1 => ?_
  refine Eq.trans (be_icmp_ge (t := 136) bd_102_9 rfl) ?_
  refine bn_if_c ?_ ?_
  · refine Eq.trans (be_iconst (v := 0) bd_102_136 (by decide)) ?_
    refine Eq.trans (be_istore_n (ls' := [some (.ref a0), some (.int a1), some (.int 0), o3]) bd_102_137 (Nat.le_of_ble_eq_true rfl) rfl) ?_
    rfl
  · refine Eq.trans (be_iconst (v := 4) bd_102_12 (by decide)) ?_
    refine Eq.trans (be_iload_n bd_102_13 rfl) ?_
    refine Eq.trans (be_imul bd_102_14) ?_
    refine Eq.trans (be_istore_n (ls' := [some (.ref a0), some (.int a1), some (.int a2), some (.int (4 * a2))]) bd_102_15 (Nat.le_of_ble_eq_true rfl) rfl) ?_
    refine Eq.trans (be_aload_n bd_102_16 rfl) ?_
    refine Eq.trans (be_getR bd_102_17 bf_3_13 rfl (Or.inl ⟨_, rfl⟩)) ?_
    refine bn_gR_c fun p2 => ?_
    refine Eq.trans (be_iload_n bd_102_20 rfl) ?_
    refine Eq.trans (be_dup2 bd_102_21 ⟨rfl, rfl⟩) ?_
    refine Eq.trans (be_iaload bd_102_22) ?_
    refine bn_bd_c fun x3 => ?_
    refine Eq.trans (be_aload_n bd_102_23 rfl) ?_
    refine Eq.trans (be_getR bd_102_24 bf_3_13 rfl (Or.inl ⟨_, rfl⟩)) ?_
    refine bn_gR_c fun p4 => ?_
    refine Eq.trans (be_iload_n bd_102_27 rfl) ?_
    refine Eq.trans (be_iconst (v := 1) bd_102_28 (by decide)) ?_
    refine Eq.trans (be_iadd bd_102_29) ?_
    refine Eq.trans (be_iaload bd_102_30) ?_
    refine bn_bd_c fun x5 => ?_
    refine Eq.trans (be_iconst (v := 1) bd_102_31 (by decide)) ?_
    refine Eq.trans (be_icmp_ne (t := 50) bd_102_32 rfl) ?_
    refine bn_if_c ?_ ?_
    · refine Eq.trans (be_aload_n bd_102_35 rfl) ?_
      refine Eq.trans (be_getR bd_102_36 bf_3_13 rfl (Or.inl ⟨_, rfl⟩)) ?_
      refine bn_gR_c fun p6 => ?_
      refine Eq.trans (be_iload_n bd_102_39 rfl) ?_
      refine Eq.trans (be_iconst (v := 2) bd_102_40 (by decide)) ?_
      refine Eq.trans (be_iadd bd_102_41) ?_
      refine Eq.trans (be_iaload bd_102_42) ?_
      refine bn_bd_c fun x7 => ?_
      refine Eq.trans (be_if_ne (t := 50) bd_102_43 rfl) ?_
      refine bn_if_c ?_ ?_
      · refine Eq.trans (be_iconst (v := 1) bd_102_46 (by decide)) ?_
        refine Eq.trans (be_goto (t := 51) bd_102_47 rfl) ?_
        refine Eq.trans (be_iadd bd_102_51) ?_
        refine Eq.trans (be_iastore bd_102_52) ?_
        refine bn_bd_c fun h8 => ?_
        refine Eq.trans (be_iload_n bd_102_53 rfl) ?_
        refine Eq.trans (be_aload_n bd_102_54 rfl) ?_
        refine Eq.trans (be_getR bd_102_55 bf_3_13 rfl (Or.inl ⟨_, rfl⟩)) ?_
        refine bn_gR_c fun p9 => ?_
        refine Eq.trans (be_iload_n bd_102_58 rfl) ?_
        refine Eq.trans (be_iconst (v := 1) bd_102_59 (by decide)) ?_
        refine Eq.trans (be_iadd bd_102_60) ?_
        refine Eq.trans (be_iaload bd_102_61) ?_
        refine bn_bd_c fun x10 => ?_
        refine Eq.trans (be_iconst (v := 1) bd_102_62 (by decide)) ?_
        refine Eq.trans (be_icmp_ne (t := 85) bd_102_63 rfl) ?_
        refine bn_if_c ?_ ?_
        · refine Eq.trans (be_aload_n bd_102_66 rfl) ?_
          refine Eq.trans (be_getR bd_102_67 bf_3_13 rfl (Or.inl ⟨_, rfl⟩)) ?_
          refine bn_gR_c fun p11 => ?_
          refine Eq.trans (be_iload_n bd_102_70 rfl) ?_
          refine Eq.trans (be_iaload bd_102_71) ?_
          refine bn_bd_c fun x12 => ?_
          refine Eq.trans (be_aload_n bd_102_72 rfl) ?_
          refine Eq.trans (be_getI bd_102_73 bf_3_48 rfl) ?_
          refine bn_gI_c fun x13 => ?_
          refine Eq.trans (be_icmp_le (t := 85) bd_102_76 rfl) ?_
          refine bn_if_c ?_ ?_
          · rfl
          · refine Eq.trans (be_iconst (v := 1) bd_102_79 (by decide)) ?_
            refine Eq.trans (be_iload_n bd_102_80 rfl) ?_
            refine Eq.trans (be_ishl bd_102_81) ?_
            refine Eq.trans (be_goto (t := 86) bd_102_82 rfl) ?_
            refine Eq.trans (be_ior bd_102_86) ?_
            refine Eq.trans (be_istore_n (ls' := [some (.ref a0), some (.int (a1 ||| (bn_shl 1 a2))), some (.int a2), some (.int (4 * a2))]) bd_102_87 (Nat.le_of_ble_eq_true rfl) rfl) ?_
            refine Eq.trans (be_aload_n bd_102_88 rfl) ?_
            refine Eq.trans (be_getR bd_102_89 bf_3_13 rfl (Or.inl ⟨_, rfl⟩)) ?_
            refine bn_gR_c fun p14 => ?_
            refine Eq.trans (be_iload_n bd_102_92 rfl) ?_
            refine Eq.trans (be_iconst (v := 1) bd_102_93 (by decide)) ?_
            refine Eq.trans (be_iadd bd_102_94) ?_
            refine Eq.trans (be_aload_n bd_102_95 rfl) ?_
            refine Eq.trans (be_getR bd_102_96 bf_3_13 rfl (Or.inl ⟨_, rfl⟩)) ?_
            refine bn_gR_c fun p15 => ?_
            refine Eq.trans (be_iload_n bd_102_99 rfl) ?_
            refine Eq.trans (be_iaload bd_102_100) ?_
            refine bn_bd_c fun x16 => ?_
            refine Eq.trans (be_aload_n bd_102_101 rfl) ?_
            refine Eq.trans (be_getI bd_102_102 bf_3_48 rfl) ?_
            refine bn_gI_c fun x17 => ?_
            refine Eq.trans (be_icmp_le (t := 112) bd_102_105 rfl) ?_
            refine bn_if_c ?_ ?_
            · refine Eq.trans (be_aload_n bd_102_112 rfl) ?_
              refine Eq.trans (be_getR bd_102_113 bf_3_13 rfl (Or.inl ⟨_, rfl⟩)) ?_
              refine bn_gR_c fun p18 => ?_
              refine Eq.trans (be_iload_n bd_102_116 rfl) ?_
              refine Eq.trans (be_iconst (v := 1) bd_102_117 (by decide)) ?_
              refine Eq.trans (be_iadd bd_102_118) ?_
              refine Eq.trans (be_iaload bd_102_119) ?_
              refine bn_bd_c fun x19 => ?_
              rfl
            · refine Eq.trans (be_iconst (v := 0) bd_102_108 (by decide)) ?_
              refine Eq.trans (be_goto (t := 120) bd_102_109 rfl) ?_
              rfl
        · rfl
      · rfl
    · rfl
theorem bs_X3_goBy_50 (a0 : Nat) (a1 : Int32) (a2 : Int32) (a3 : Int32) (s0 : Int32) (s1 : Int32) (s2 : Nat) (h : bn_H) : bn_ev 102 50 [some (.ref a0), some (.int a1), some (.int a2), some (.int a3)] [.int s0, .int s1, .ref s2] h = (bn_sd h s2 0 s1 (s0 + 0)).bind (fun h1 => bn_gR h1 a0 3 6 (fun p2 => (bn_ld h1 p2 0 (a3 + 1)).bind (fun x3 => if x3 = 1 then (bn_gR h1 a0 3 6 (fun p4 => (bn_ld h1 p4 0 a3).bind (fun x5 => bn_gI h1 a0 3 8 (fun x6 => if x5 ≤ x6 then (bn_ev 102 85 [some (.ref a0), some (.int a1), some (.int a2), some (.int a3)] [.int a1] h1) else (bn_gR h1 a0 3 6 (fun p7 => bn_gR h1 a0 3 6 (fun p8 => (bn_ld h1 p8 0 a3).bind (fun x9 => bn_gI h1 a0 3 8 (fun x10 => if x9 ≤ x10 then (bn_gR h1 a0 3 6 (fun p11 => (bn_ld h1 p11 0 (a3 + 1)).bind (fun x12 => bn_ev 102 120 [some (.ref a0), some (.int (a1 ||| (bn_shl 1 a2))), some (.int a2), some (.int a3)] [.int x12, .int (a3 + 1), .ref p7] h1))) else (bn_ev 102 120 [some (.ref a0), some (.int (a1 ||| (bn_shl 1 a2))), some (.int a2), some (.int a3)] [.int 0, .int (a3 + 1), .ref p7] h1)))))))))) else (bn_ev 102 85 [some (.ref a0), some (.int a1), some (.int a2), some (.int a3)] [.int a1] h1)))) := by
  refine Eq.trans (be_iconst (v := 0) bd_102_50 (by decide)) ?_
  refine Eq.trans (be_iadd bd_102_51) ?_
  refine Eq.trans (be_iastore bd_102_52) ?_
  refine bn_bd_c fun h1 => ?_
  refine Eq.trans (be_iload_n bd_102_53 rfl) ?_
  refine Eq.trans (be_aload_n bd_102_54 rfl) ?_
  refine Eq.trans (be_getR bd_102_55 bf_3_13 rfl (Or.inl ⟨_, rfl⟩)) ?_
  refine bn_gR_c fun p2 => ?_
  refine Eq.trans (be_iload_n bd_102_58 rfl) ?_
  refine Eq.trans (be_iconst (v := 1) bd_102_59 (by decide)) ?_
  refine Eq.trans (be_iadd bd_102_60) ?_
  refine Eq.trans (be_iaload bd_102_61) ?_
  refine bn_bd_c fun x3 => ?_
  refine Eq.trans (be_iconst (v := 1) bd_102_62 (by decide)) ?_
  refine Eq.trans (be_icmp_ne (t := 85) bd_102_63 rfl) ?_
  refine bn_if_c ?_ ?_
  · refine Eq.trans (be_aload_n bd_102_66 rfl) ?_
    refine Eq.trans (be_getR bd_102_67 bf_3_13 rfl (Or.inl ⟨_, rfl⟩)) ?_
    refine bn_gR_c fun p4 => ?_
    refine Eq.trans (be_iload_n bd_102_70 rfl) ?_
    refine Eq.trans (be_iaload bd_102_71) ?_
    refine bn_bd_c fun x5 => ?_
    refine Eq.trans (be_aload_n bd_102_72 rfl) ?_
    refine Eq.trans (be_getI bd_102_73 bf_3_48 rfl) ?_
    refine bn_gI_c fun x6 => ?_
    refine Eq.trans (be_icmp_le (t := 85) bd_102_76 rfl) ?_
    refine bn_if_c ?_ ?_
    · rfl
    · refine Eq.trans (be_iconst (v := 1) bd_102_79 (by decide)) ?_
      refine Eq.trans (be_iload_n bd_102_80 rfl) ?_
      refine Eq.trans (be_ishl bd_102_81) ?_
      refine Eq.trans (be_goto (t := 86) bd_102_82 rfl) ?_
      refine Eq.trans (be_ior bd_102_86) ?_
      refine Eq.trans (be_istore_n (ls' := [some (.ref a0), some (.int (a1 ||| (bn_shl 1 a2))), some (.int a2), some (.int a3)]) bd_102_87 (Nat.le_of_ble_eq_true rfl) rfl) ?_
      refine Eq.trans (be_aload_n bd_102_88 rfl) ?_
      refine Eq.trans (be_getR bd_102_89 bf_3_13 rfl (Or.inl ⟨_, rfl⟩)) ?_
      refine bn_gR_c fun p7 => ?_
      refine Eq.trans (be_iload_n bd_102_92 rfl) ?_
      refine Eq.trans (be_iconst (v := 1) bd_102_93 (by decide)) ?_
      refine Eq.trans (be_iadd bd_102_94) ?_
      refine Eq.trans (be_aload_n bd_102_95 rfl) ?_
      refine Eq.trans (be_getR bd_102_96 bf_3_13 rfl (Or.inl ⟨_, rfl⟩)) ?_
      refine bn_gR_c fun p8 => ?_
      refine Eq.trans (be_iload_n bd_102_99 rfl) ?_
      refine Eq.trans (be_iaload bd_102_100) ?_
      refine bn_bd_c fun x9 => ?_
      refine Eq.trans (be_aload_n bd_102_101 rfl) ?_
      refine Eq.trans (be_getI bd_102_102 bf_3_48 rfl) ?_
      refine bn_gI_c fun x10 => ?_
      refine Eq.trans (be_icmp_le (t := 112) bd_102_105 rfl) ?_
      refine bn_if_c ?_ ?_
      · refine Eq.trans (be_aload_n bd_102_112 rfl) ?_
        refine Eq.trans (be_getR bd_102_113 bf_3_13 rfl (Or.inl ⟨_, rfl⟩)) ?_
        refine bn_gR_c fun p11 => ?_
        refine Eq.trans (be_iload_n bd_102_116 rfl) ?_
        refine Eq.trans (be_iconst (v := 1) bd_102_117 (by decide)) ?_
        refine Eq.trans (be_iadd bd_102_118) ?_
        refine Eq.trans (be_iaload bd_102_119) ?_
        refine bn_bd_c fun x12 => ?_
        rfl
      · refine Eq.trans (be_iconst (v := 0) bd_102_108 (by decide)) ?_
        refine Eq.trans (be_goto (t := 120) bd_102_109 rfl) ?_
        rfl
  · rfl
theorem bs_X3_goBy_85 (a0 : Nat) (a1 : Int32) (a2 : Int32) (a3 : Int32) (s0 : Int32) (h : bn_H) : bn_ev 102 85 [some (.ref a0), some (.int a1), some (.int a2), some (.int a3)] [.int s0] h = bn_gR h a0 3 6 (fun p1 => bn_gR h a0 3 6 (fun p2 => (bn_ld h p2 0 a3).bind (fun x3 => bn_gI h a0 3 8 (fun x4 => if x3 ≤ x4 then (bn_gR h a0 3 6 (fun p5 => (bn_ld h p5 0 (a3 + 1)).bind (fun x6 => bn_ev 102 120 [some (.ref a0), some (.int (s0 ||| 0)), some (.int a2), some (.int a3)] [.int x6, .int (a3 + 1), .ref p1] h))) else (bn_ev 102 120 [some (.ref a0), some (.int (s0 ||| 0)), some (.int a2), some (.int a3)] [.int 0, .int (a3 + 1), .ref p1] h))))) := by
  refine Eq.trans (be_iconst (v := 0) bd_102_85 (by decide)) ?_
  refine Eq.trans (be_ior bd_102_86) ?_
  refine Eq.trans (be_istore_n (ls' := [some (.ref a0), some (.int (s0 ||| 0)), some (.int a2), some (.int a3)]) bd_102_87 (Nat.le_of_ble_eq_true rfl) rfl) ?_
  refine Eq.trans (be_aload_n bd_102_88 rfl) ?_
  refine Eq.trans (be_getR bd_102_89 bf_3_13 rfl (Or.inl ⟨_, rfl⟩)) ?_
  refine bn_gR_c fun p1 => ?_
  refine Eq.trans (be_iload_n bd_102_92 rfl) ?_
  refine Eq.trans (be_iconst (v := 1) bd_102_93 (by decide)) ?_
  refine Eq.trans (be_iadd bd_102_94) ?_
  refine Eq.trans (be_aload_n bd_102_95 rfl) ?_
  refine Eq.trans (be_getR bd_102_96 bf_3_13 rfl (Or.inl ⟨_, rfl⟩)) ?_
  refine bn_gR_c fun p2 => ?_
  refine Eq.trans (be_iload_n bd_102_99 rfl) ?_
  refine Eq.trans (be_iaload bd_102_100) ?_
  refine bn_bd_c fun x3 => ?_
  refine Eq.trans (be_aload_n bd_102_101 rfl) ?_
  refine Eq.trans (be_getI bd_102_102 bf_3_48 rfl) ?_
  refine bn_gI_c fun x4 => ?_
  refine Eq.trans (be_icmp_le (t := 112) bd_102_105 rfl) ?_
  refine bn_if_c ?_ ?_
  · refine Eq.trans (be_aload_n bd_102_112 rfl) ?_
    refine Eq.trans (be_getR bd_102_113 bf_3_13 rfl (Or.inl ⟨_, rfl⟩)) ?_
    refine bn_gR_c fun p5 => ?_
    refine Eq.trans (be_iload_n bd_102_116 rfl) ?_
    refine Eq.trans (be_iconst (v := 1) bd_102_117 (by decide)) ?_
    refine Eq.trans (be_iadd bd_102_118) ?_
    refine Eq.trans (be_iaload bd_102_119) ?_
    refine bn_bd_c fun x6 => ?_
    rfl
  · refine Eq.trans (be_iconst (v := 0) bd_102_108 (by decide)) ?_
    refine Eq.trans (be_goto (t := 120) bd_102_109 rfl) ?_
    rfl
theorem bs_X3_goBy_120 (a0 : Nat) (a1 : Int32) (a2 : Int32) (a3 : Int32) (s0 : Int32) (s1 : Int32) (s2 : Nat) (h : bn_H) : bn_ev 102 120 [some (.ref a0), some (.int a1), some (.int a2), some (.int a3)] [.int s0, .int s1, .ref s2] h = (bn_sd h s2 0 s1 s0).bind (fun h1 => bn_gR h1 a0 3 6 (fun p2 => (bn_sd h1 p2 0 (a3 + 2) 0).bind (fun h3 => bn_ev 102 4 [some (.ref a0), some (.int a1), some (.int (a2 + 1)), some (.int a3)] [] h3))) := by
  refine Eq.trans (be_iastore bd_102_120) ?_
  refine bn_bd_c fun h1 => ?_
  refine Eq.trans (be_aload_n bd_102_121 rfl) ?_
  refine Eq.trans (be_getR bd_102_122 bf_3_13 rfl (Or.inl ⟨_, rfl⟩)) ?_
  refine bn_gR_c fun p2 => ?_
  refine Eq.trans (be_iload_n bd_102_125 rfl) ?_
  refine Eq.trans (be_iconst (v := 2) bd_102_126 (by decide)) ?_
  refine Eq.trans (be_iadd bd_102_127) ?_
  refine Eq.trans (be_iconst (v := 0) bd_102_128 (by decide)) ?_
  refine Eq.trans (be_iastore bd_102_129) ?_
  refine bn_bd_c fun h3 => ?_
  refine Eq.trans (be_iinc (v := 1) (ls' := [some (.ref a0), some (.int a1), some (.int (a2 + 1)), some (.int a3)]) bd_102_130 rfl (by decide) (Nat.le_of_ble_eq_true rfl) rfl) ?_
  refine Eq.trans (be_goto (t := 4) bd_102_133 rfl) ?_
  rfl
theorem bs_X3_goBy_138 (a0 : Nat) (a1 : Int32) (a2 : Int32) (o3 : Option Value) (h : bn_H) : bn_ev 102 138 [some (.ref a0), some (.int a1), some (.int a2), o3] [] h = bn_gI h a0 3 11 (fun x1 => if x1 ≤ a2 then (bn_gR h a0 3 6 (fun p2 => (bn_ld h p2 0 70).bind (fun x3 => (bn_sd h p2 0 70 (x3 + 1)).bind (fun h4 => some (some (.int a1), h4))))) else (bn_gR h a0 3 6 (fun p5 => (bn_ld h p5 0 ((20 + (5 * a2)) + 2)).bind (fun x6 => bn_gR h a0 3 6 (fun p7 => (bn_ld h p7 0 ((20 + (5 * a2)) + 1)).bind (fun x8 => if x8 = 20 then (bn_ev 102 192 [some (.ref a0), some (.int a1), some (.int a2), some (.int (20 + (5 * a2)))] [.int x6, .int ((20 + (5 * a2)) + 2), .ref p5] h) else (bn_gR h a0 3 6 (fun p9 => (bn_ld h p9 0 ((20 + (5 * a2)) + 2)).bind (fun x10 => if 99 ≤ x10 then (bn_ev 102 192 [some (.ref a0), some (.int a1), some (.int a2), some (.int (20 + (5 * a2)))] [.int x6, .int ((20 + (5 * a2)) + 2), .ref p5] h) else ((bn_sd h p5 0 ((20 + (5 * a2)) + 2) (x6 + 1)).bind (fun h11 => bn_gR h11 a0 3 6 (fun p12 => bn_gR h11 a0 3 6 (fun p13 => (bn_ld h11 p13 0 ((20 + (5 * a2)) + 1)).bind (fun x14 => if 10 ≤ x14 then (bn_ev 102 236 [some (.ref a0), some (.int a1), some (.int a2), some (.int (20 + (5 * a2)))] [.int ((20 + (5 * a2)) + 1), .ref p12] h11) else (bn_gR h11 a0 3 6 (fun p15 => (bn_ld h11 p15 0 ((20 + (5 * a2)) + 1)).bind (fun x16 => if ((bn_shr a1 x16) &&& 1) = 1 then ((bn_sd h11 p12 0 ((20 + (5 * a2)) + 1) 10).bind (fun h17 => bn_ev 102 138 [some (.ref a0), some (.int a1), some (.int (a2 + 1)), some (.int (20 + (5 * a2)))] [] h17)) else (bn_ev 102 236 [some (.ref a0), some (.int a1), some (.int a2), some (.int (20 + (5 * a2)))] [.int ((20 + (5 * a2)) + 1), .ref p12] h11)))))))))))))))))) := by
  refine Eq.trans (be_iload_n bd_102_138 rfl) ?_
  refine Eq.trans (be_aload_n bd_102_139 rfl) ?_
  refine Eq.trans (be_getI bd_102_140 bf_3_109 rfl) ?_
  refine bn_gI_c fun x1 => ?_
  refine Eq.trans (be_icmp_ge (t := 251) bd_102_143 rfl) ?_
  refine bn_if_c ?_ ?_
  · refine Eq.trans (be_aload_n bd_102_251 rfl) ?_
    refine Eq.trans (be_getR bd_102_252 bf_3_13 rfl (Or.inl ⟨_, rfl⟩)) ?_
    refine bn_gR_c fun p2 => ?_
    refine Eq.trans (be_bipush (v := 70) bd_102_255 (by decide)) ?_
    refine Eq.trans (be_dup2 bd_102_257 ⟨rfl, rfl⟩) ?_
    refine Eq.trans (be_iaload bd_102_258) ?_
    refine bn_bd_c fun x3 => ?_
    refine Eq.trans (be_iconst (v := 1) bd_102_259 (by decide)) ?_
    refine Eq.trans (be_iadd bd_102_260) ?_
    refine Eq.trans (be_iastore bd_102_261) ?_
    refine bn_bd_c fun h4 => ?_
    refine Eq.trans (be_iload_n bd_102_262 rfl) ?_
    exact be_ireturn bd_102_263 rfl
  · refine Eq.trans (be_bipush (v := 20) bd_102_146 (by decide)) ?_
    refine Eq.trans (be_iconst (v := 5) bd_102_148 (by decide)) ?_
    refine Eq.trans (be_iload_n bd_102_149 rfl) ?_
    refine Eq.trans (be_imul bd_102_150) ?_
    refine Eq.trans (be_iadd bd_102_151) ?_
    refine Eq.trans (be_istore_n (ls' := [some (.ref a0), some (.int a1), some (.int a2), some (.int (20 + (5 * a2)))]) bd_102_152 (Nat.le_of_ble_eq_true rfl) rfl) ?_
    refine Eq.trans (be_aload_n bd_102_153 rfl) ?_
    refine Eq.trans (be_getR bd_102_154 bf_3_13 rfl (Or.inl ⟨_, rfl⟩)) ?_
    refine bn_gR_c fun p5 => ?_
    refine Eq.trans (be_iload_n bd_102_157 rfl) ?_
    refine Eq.trans (be_iconst (v := 2) bd_102_158 (by decide)) ?_
    refine Eq.trans (be_iadd bd_102_159) ?_
    refine Eq.trans (be_dup2 bd_102_160 ⟨rfl, rfl⟩) ?_
    refine Eq.trans (be_iaload bd_102_161) ?_
    refine bn_bd_c fun x6 => ?_
    refine Eq.trans (be_aload_n bd_102_162 rfl) ?_
    refine Eq.trans (be_getR bd_102_163 bf_3_13 rfl (Or.inl ⟨_, rfl⟩)) ?_
    refine bn_gR_c fun p7 => ?_
    refine Eq.trans (be_iload_n bd_102_166 rfl) ?_
    refine Eq.trans (be_iconst (v := 1) bd_102_167 (by decide)) ?_
    refine Eq.trans (be_iadd bd_102_168) ?_
    refine Eq.trans (be_iaload bd_102_169) ?_
    refine bn_bd_c fun x8 => ?_
    refine Eq.trans (be_bipush (v := 20) bd_102_170 (by decide)) ?_
    refine Eq.trans (be_icmp_eq (t := 192) bd_102_172 rfl) ?_
    refine bn_if_c ?_ ?_
    · rfl
    · refine Eq.trans (be_aload_n bd_102_175 rfl) ?_
      refine Eq.trans (be_getR bd_102_176 bf_3_13 rfl (Or.inl ⟨_, rfl⟩)) ?_
      refine bn_gR_c fun p9 => ?_
      refine Eq.trans (be_iload_n bd_102_179 rfl) ?_
      refine Eq.trans (be_iconst (v := 2) bd_102_180 (by decide)) ?_
      refine Eq.trans (be_iadd bd_102_181) ?_
      refine Eq.trans (be_iaload bd_102_182) ?_
      refine bn_bd_c fun x10 => ?_
      refine Eq.trans (be_bipush (v := 99) bd_102_183 (by decide)) ?_
      refine Eq.trans (be_icmp_ge (t := 192) bd_102_185 rfl) ?_
      refine bn_if_c ?_ ?_
      · rfl
      · refine Eq.trans (be_iconst (v := 1) bd_102_188 (by decide)) ?_
        refine Eq.trans (be_goto (t := 193) bd_102_189 rfl) ?_
        refine Eq.trans (be_iadd bd_102_193) ?_
        refine Eq.trans (be_iastore bd_102_194) ?_
        refine bn_bd_c fun h11 => ?_
        refine Eq.trans (be_aload_n bd_102_195 rfl) ?_
        refine Eq.trans (be_getR bd_102_196 bf_3_13 rfl (Or.inl ⟨_, rfl⟩)) ?_
        refine bn_gR_c fun p12 => ?_
        refine Eq.trans (be_iload_n bd_102_199 rfl) ?_
        refine Eq.trans (be_iconst (v := 1) bd_102_200 (by decide)) ?_
        refine Eq.trans (be_iadd bd_102_201) ?_
        refine Eq.trans (be_aload_n bd_102_202 rfl) ?_
        refine Eq.trans (be_getR bd_102_203 bf_3_13 rfl (Or.inl ⟨_, rfl⟩)) ?_
        refine bn_gR_c fun p13 => ?_
        refine Eq.trans (be_iload_n bd_102_206 rfl) ?_
        refine Eq.trans (be_iconst (v := 1) bd_102_207 (by decide)) ?_
        refine Eq.trans (be_iadd bd_102_208) ?_
        refine Eq.trans (be_iaload bd_102_209) ?_
        refine bn_bd_c fun x14 => ?_
        refine Eq.trans (be_bipush (v := 10) bd_102_210 (by decide)) ?_
        refine Eq.trans (be_icmp_ge (t := 236) bd_102_212 rfl) ?_
        refine bn_if_c ?_ ?_
        · rfl
        · refine Eq.trans (be_iload_n bd_102_215 rfl) ?_
          refine Eq.trans (be_aload_n bd_102_216 rfl) ?_
          refine Eq.trans (be_getR bd_102_217 bf_3_13 rfl (Or.inl ⟨_, rfl⟩)) ?_
          refine bn_gR_c fun p15 => ?_
          refine Eq.trans (be_iload_n bd_102_220 rfl) ?_
          refine Eq.trans (be_iconst (v := 1) bd_102_221 (by decide)) ?_
          refine Eq.trans (be_iadd bd_102_222) ?_
          refine Eq.trans (be_iaload bd_102_223) ?_
          refine bn_bd_c fun x16 => ?_
          refine Eq.trans (be_ishr bd_102_224) ?_
          refine Eq.trans (be_iconst (v := 1) bd_102_225 (by decide)) ?_
          refine Eq.trans (be_iand bd_102_226) ?_
          refine Eq.trans (be_iconst (v := 1) bd_102_227 (by decide)) ?_
          refine Eq.trans (be_icmp_ne (t := 236) bd_102_228 rfl) ?_
          refine bn_if_c ?_ ?_
          · refine Eq.trans (be_bipush (v := 10) bd_102_231 (by decide)) ?_
            refine Eq.trans (be_goto (t := 244) bd_102_233 rfl) ?_
            refine Eq.trans (be_iastore bd_102_244) ?_
            refine bn_bd_c fun h17 => ?_
            refine Eq.trans (be_iinc (v := 1) (ls' := [some (.ref a0), some (.int a1), some (.int (a2 + 1)), some (.int (20 + (5 * a2)))]) bd_102_245 rfl (by decide) (Nat.le_of_ble_eq_true rfl) rfl) ?_
            refine Eq.trans (be_goto (t := 138) bd_102_248 rfl) ?_
            rfl
          · rfl
theorem bs_X3_goBy_192 (a0 : Nat) (a1 : Int32) (a2 : Int32) (a3 : Int32) (s0 : Int32) (s1 : Int32) (s2 : Nat) (h : bn_H) : bn_ev 102 192 [some (.ref a0), some (.int a1), some (.int a2), some (.int a3)] [.int s0, .int s1, .ref s2] h = (bn_sd h s2 0 s1 (s0 + 0)).bind (fun h1 => bn_gR h1 a0 3 6 (fun p2 => bn_gR h1 a0 3 6 (fun p3 => (bn_ld h1 p3 0 (a3 + 1)).bind (fun x4 => if 10 ≤ x4 then (bn_ev 102 236 [some (.ref a0), some (.int a1), some (.int a2), some (.int a3)] [.int (a3 + 1), .ref p2] h1) else (bn_gR h1 a0 3 6 (fun p5 => (bn_ld h1 p5 0 (a3 + 1)).bind (fun x6 => if ((bn_shr a1 x6) &&& 1) = 1 then ((bn_sd h1 p2 0 (a3 + 1) 10).bind (fun h7 => bn_ev 102 138 [some (.ref a0), some (.int a1), some (.int (a2 + 1)), some (.int a3)] [] h7)) else (bn_ev 102 236 [some (.ref a0), some (.int a1), some (.int a2), some (.int a3)] [.int (a3 + 1), .ref p2] h1)))))))) := by
  refine Eq.trans (be_iconst (v := 0) bd_102_192 (by decide)) ?_
  refine Eq.trans (be_iadd bd_102_193) ?_
  refine Eq.trans (be_iastore bd_102_194) ?_
  refine bn_bd_c fun h1 => ?_
  refine Eq.trans (be_aload_n bd_102_195 rfl) ?_
  refine Eq.trans (be_getR bd_102_196 bf_3_13 rfl (Or.inl ⟨_, rfl⟩)) ?_
  refine bn_gR_c fun p2 => ?_
  refine Eq.trans (be_iload_n bd_102_199 rfl) ?_
  refine Eq.trans (be_iconst (v := 1) bd_102_200 (by decide)) ?_
  refine Eq.trans (be_iadd bd_102_201) ?_
  refine Eq.trans (be_aload_n bd_102_202 rfl) ?_
  refine Eq.trans (be_getR bd_102_203 bf_3_13 rfl (Or.inl ⟨_, rfl⟩)) ?_
  refine bn_gR_c fun p3 => ?_
  refine Eq.trans (be_iload_n bd_102_206 rfl) ?_
  refine Eq.trans (be_iconst (v := 1) bd_102_207 (by decide)) ?_
  refine Eq.trans (be_iadd bd_102_208) ?_
  refine Eq.trans (be_iaload bd_102_209) ?_
  refine bn_bd_c fun x4 => ?_
  refine Eq.trans (be_bipush (v := 10) bd_102_210 (by decide)) ?_
  refine Eq.trans (be_icmp_ge (t := 236) bd_102_212 rfl) ?_
  refine bn_if_c ?_ ?_
  · rfl
  · refine Eq.trans (be_iload_n bd_102_215 rfl) ?_
    refine Eq.trans (be_aload_n bd_102_216 rfl) ?_
    refine Eq.trans (be_getR bd_102_217 bf_3_13 rfl (Or.inl ⟨_, rfl⟩)) ?_
    refine bn_gR_c fun p5 => ?_
    refine Eq.trans (be_iload_n bd_102_220 rfl) ?_
    refine Eq.trans (be_iconst (v := 1) bd_102_221 (by decide)) ?_
    refine Eq.trans (be_iadd bd_102_222) ?_
    refine Eq.trans (be_iaload bd_102_223) ?_
    refine bn_bd_c fun x6 => ?_
    refine Eq.trans (be_ishr bd_102_224) ?_
    refine Eq.trans (be_iconst (v := 1) bd_102_225 (by decide)) ?_
    refine Eq.trans (be_iand bd_102_226) ?_
    refine Eq.trans (be_iconst (v := 1) bd_102_227 (by decide)) ?_
    refine Eq.trans (be_icmp_ne (t := 236) bd_102_228 rfl) ?_
    refine bn_if_c ?_ ?_
    · refine Eq.trans (be_bipush (v := 10) bd_102_231 (by decide)) ?_
      refine Eq.trans (be_goto (t := 244) bd_102_233 rfl) ?_
      refine Eq.trans (be_iastore bd_102_244) ?_
      refine bn_bd_c fun h7 => ?_
      refine Eq.trans (be_iinc (v := 1) (ls' := [some (.ref a0), some (.int a1), some (.int (a2 + 1)), some (.int a3)]) bd_102_245 rfl (by decide) (Nat.le_of_ble_eq_true rfl) rfl) ?_
      refine Eq.trans (be_goto (t := 138) bd_102_248 rfl) ?_
      rfl
    · rfl
theorem bs_X3_goBy_236 (a0 : Nat) (a1 : Int32) (a2 : Int32) (a3 : Int32) (s0 : Int32) (s1 : Nat) (h : bn_H) : bn_ev 102 236 [some (.ref a0), some (.int a1), some (.int a2), some (.int a3)] [.int s0, .ref s1] h = bn_gR h a0 3 6 (fun p1 => (bn_ld h p1 0 (a3 + 1)).bind (fun x2 => (bn_sd h s1 0 s0 x2).bind (fun h3 => bn_ev 102 138 [some (.ref a0), some (.int a1), some (.int (a2 + 1)), some (.int a3)] [] h3))) := by
  refine Eq.trans (be_aload_n bd_102_236 rfl) ?_
  refine Eq.trans (be_getR bd_102_237 bf_3_13 rfl (Or.inl ⟨_, rfl⟩)) ?_
  refine bn_gR_c fun p1 => ?_
  refine Eq.trans (be_iload_n bd_102_240 rfl) ?_
  refine Eq.trans (be_iconst (v := 1) bd_102_241 (by decide)) ?_
  refine Eq.trans (be_iadd bd_102_242) ?_
  refine Eq.trans (be_iaload bd_102_243) ?_
  refine bn_bd_c fun x2 => ?_
  refine Eq.trans (be_iastore bd_102_244) ?_
  refine bn_bd_c fun h3 => ?_
  refine Eq.trans (be_iinc (v := 1) (ls' := [some (.ref a0), some (.int a1), some (.int (a2 + 1)), some (.int a3)]) bd_102_245 rfl (by decide) (Nat.le_of_ble_eq_true rfl) rfl) ?_
  refine Eq.trans (be_goto (t := 138) bd_102_248 rfl) ?_
  rfl
theorem bs_X3_day_0 (a0 : Nat) (h : bn_H) : bn_ev 103 0 [some (.ref a0)] [] h = bn_gd (bn_isC h a0 3) (bn_cV (bn_ev 94 0 [some (.ref a0), none] [] h) (fun h1 => bn_gd (bn_isC h1 a0 3) (bn_cI (bn_ev 102 0 [some (.ref a0), none, none, none] [] h1) (fun x4 h3 => some (some (.int x4), h3))))) := by
  refine Eq.trans (be_aload_n bd_103_0 rfl) ?_
  refine Eq.trans (be_virtV (as := []) (rr := []) (en := [some (.ref a0), none]) bd_103_1 bm_3_145 rfl rfl rfl ⟨Nat.le_of_ble_eq_true rfl, Nat.le_of_ble_eq_true rfl, Nat.le_of_ble_eq_true rfl, Nat.le_of_ble_eq_true rfl⟩ rfl) ?_
  refine bn_gd_c (bn_cV_c fun h1 => ?_)
  refine Eq.trans (be_aload_n bd_103_4 rfl) ?_
  refine Eq.trans (be_virtI (as := []) (rr := []) (en := [some (.ref a0), none, none, none]) bd_103_5 bm_3_155 rfl rfl rfl ⟨Nat.le_of_ble_eq_true rfl, Nat.le_of_ble_eq_true rfl, Nat.le_of_ble_eq_true rfl, Nat.le_of_ble_eq_true rfl⟩ (Or.inl rfl)) ?_
  refine bn_gd_c (bn_cI_c fun x4 h3 => ?_)
  exact be_ireturn bd_103_8 rfl
theorem bs_X3_alive_0 (a0 : Nat) (h : bn_H) : bn_ev 104 0 [some (.ref a0), none, none] [] h = bn_ev 104 4 [some (.ref a0), some (.int 0), some (.int 0)] [] h := by
  refine Eq.trans (be_iconst (v := 0) bd_104_0 (by decide)) ?_
  refine Eq.trans (be_istore_n (ls' := [some (.ref a0), some (.int 0), none]) bd_104_1 (Nat.le_of_ble_eq_true rfl) rfl) ?_
  refine Eq.trans (be_iconst (v := 0) bd_104_2 (by decide)) ?_
  refine Eq.trans (be_istore_n (ls' := [some (.ref a0), some (.int 0), some (.int 0)]) bd_104_3 (Nat.le_of_ble_eq_true rfl) rfl) ?_
  rfl
theorem bs_X3_alive_4 (a0 : Nat) (a1 : Int32) (a2 : Int32) (h : bn_H) : bn_ev 104 4 [some (.ref a0), some (.int a1), some (.int a2)] [] h = bn_gI h a0 3 10 (fun x1 => if x1 ≤ a2 then (some (some (.int a1), h)) else (bn_gR h a0 3 6 (fun p2 => (bn_ld h p2 0 ((4 * a2) + 1)).bind (fun x3 => bn_ev 104 4 [some (.ref a0), some (.int (a1 ||| (bn_shl x3 a2))), some (.int (a2 + 1))] [] h)))) := by
  refine Eq.trans (be_iload_n bd_104_4 rfl) ?_
  refine Eq.trans (be_aload_n bd_104_5 rfl) ?_
  refine Eq.trans (be_getI bd_104_6 bf_3_106 rfl) ?_
  refine bn_gI_c fun x1 => ?_
  refine Eq.trans (be_icmp_ge (t := 33) bd_104_9 rfl) ?_
  refine bn_if_c ?_ ?_
  · refine Eq.trans (be_iload_n bd_104_33 rfl) ?_
    exact be_ireturn bd_104_34 rfl
  · refine Eq.trans (be_iload_n bd_104_12 rfl) ?_
    refine Eq.trans (be_aload_n bd_104_13 rfl) ?_
    refine Eq.trans (be_getR bd_104_14 bf_3_13 rfl (Or.inl ⟨_, rfl⟩)) ?_
    refine bn_gR_c fun p2 => ?_
    refine Eq.trans (be_iconst (v := 4) bd_104_17 (by decide)) ?_
    refine Eq.trans (be_iload_n bd_104_18 rfl) ?_
    refine Eq.trans (be_imul bd_104_19) ?_
    refine Eq.trans (be_iconst (v := 1) bd_104_20 (by decide)) ?_
    refine Eq.trans (be_iadd bd_104_21) ?_
    refine Eq.trans (be_iaload bd_104_22) ?_
    refine bn_bd_c fun x3 => ?_
    refine Eq.trans (be_iload_n bd_104_23 rfl) ?_
    refine Eq.trans (be_ishl bd_104_24) ?_
    refine Eq.trans (be_ior bd_104_25) ?_
    refine Eq.trans (be_istore_n (ls' := [some (.ref a0), some (.int (a1 ||| (bn_shl x3 a2))), some (.int a2)]) bd_104_26 (Nat.le_of_ble_eq_true rfl) rfl) ?_
    refine Eq.trans (be_iinc (v := 1) (ls' := [some (.ref a0), some (.int (a1 ||| (bn_shl x3 a2))), some (.int (a2 + 1))]) bd_104_27 rfl (by decide) (Nat.le_of_ble_eq_true rfl) rfl) ?_
    refine Eq.trans (be_goto (t := 4) bd_104_30 rfl) ?_
    rfl
theorem bs_X3_ones_0 (a0 : Int32) (h : bn_H) : bn_ev 105 0 [some (.int a0), none, none] [] h = bn_ev 105 4 [some (.int a0), some (.int 0), some (.int 0)] [] h := by
  refine Eq.trans (be_iconst (v := 0) bd_105_0 (by decide)) ?_
  refine Eq.trans (be_istore_n (ls' := [some (.int a0), some (.int 0), none]) bd_105_1 (Nat.le_of_ble_eq_true rfl) rfl) ?_
  refine Eq.trans (be_iconst (v := 0) bd_105_2 (by decide)) ?_
  refine Eq.trans (be_istore_n (ls' := [some (.int a0), some (.int 0), some (.int 0)]) bd_105_3 (Nat.le_of_ble_eq_true rfl) rfl) ?_
  rfl
theorem bs_X3_ones_4 (a0 : Int32) (a1 : Int32) (a2 : Int32) (h : bn_H) : bn_ev 105 4 [some (.int a0), some (.int a1), some (.int a2)] [] h = if 10 ≤ a2 then (some (some (.int a1), h)) else (bn_ev 105 4 [some (.int a0), some (.int (a1 + ((bn_shr a0 a2) &&& 1))), some (.int (a2 + 1))] [] h) := by
  refine Eq.trans (be_iload_n bd_105_4 rfl) ?_
  refine Eq.trans (be_bipush (v := 10) bd_105_5 (by decide)) ?_
  refine Eq.trans (be_icmp_ge (t := 24) bd_105_7 rfl) ?_
  refine bn_if_c ?_ ?_
  · refine Eq.trans (be_iload_n bd_105_24 rfl) ?_
    exact be_ireturn bd_105_25 rfl
  · refine Eq.trans (be_iload_n bd_105_10 rfl) ?_
    refine Eq.trans (be_iload_n bd_105_11 rfl) ?_
    refine Eq.trans (be_iload_n bd_105_12 rfl) ?_
    refine Eq.trans (be_ishr bd_105_13) ?_
    refine Eq.trans (be_iconst (v := 1) bd_105_14 (by decide)) ?_
    refine Eq.trans (be_iand bd_105_15) ?_
    refine Eq.trans (be_iadd bd_105_16) ?_
    refine Eq.trans (be_istore_n (ls' := [some (.int a0), some (.int (a1 + ((bn_shr a0 a2) &&& 1))), some (.int a2)]) bd_105_17 (Nat.le_of_ble_eq_true rfl) rfl) ?_
    refine Eq.trans (be_iinc (v := 1) (ls' := [some (.int a0), some (.int (a1 + ((bn_shr a0 a2) &&& 1))), some (.int (a2 + 1))]) bd_105_18 rfl (by decide) (Nat.le_of_ble_eq_true rfl) rfl) ?_
    refine Eq.trans (be_goto (t := 4) bd_105_21 rfl) ?_
    rfl
theorem bs_X3_nth_0 (a0 : Int32) (a1 : Int32) (h : bn_H) : bn_ev 106 0 [some (.int a0), some (.int a1), none, none] [] h = bn_ev 106 4 [some (.int a0), some (.int a1), some (.int 0), some (.int a1)] [] h := by
  refine Eq.trans (be_iconst (v := 0) bd_106_0 (by decide)) ?_
  refine Eq.trans (be_istore_n (ls' := [some (.int a0), some (.int a1), some (.int 0), none]) bd_106_1 (Nat.le_of_ble_eq_true rfl) rfl) ?_
  refine Eq.trans (be_iload_n bd_106_2 rfl) ?_
  refine Eq.trans (be_istore_n (ls' := [some (.int a0), some (.int a1), some (.int 0), some (.int a1)]) bd_106_3 (Nat.le_of_ble_eq_true rfl) rfl) ?_
  rfl
theorem bs_X3_nth_4 (a0 : Int32) (a1 : Int32) (a2 : Int32) (a3 : Int32) (h : bn_H) : bn_ev 106 4 [some (.int a0), some (.int a1), some (.int a2), some (.int a3)] [] h = if 0 < a3 then (bn_ev 106 16 [some (.int a0), some (.int a1), some (.int a2), some (.int a3)] [] h) else (if ((bn_shr a0 a2) &&& 1) = 0 then (bn_ev 106 16 [some (.int a0), some (.int a1), some (.int a2), some (.int a3)] [] h) else (some (some (.int a2), h))) := by
  refine Eq.trans (be_iload_n bd_106_4 rfl) ?_
  refine Eq.trans (be_if_gt (t := 16) bd_106_5 rfl) ?_
  refine bn_if_c ?_ ?_
  · rfl
  · refine Eq.trans (be_iload_n bd_106_8 rfl) ?_
    refine Eq.trans (be_iload_n bd_106_9 rfl) ?_
    refine Eq.trans (be_ishr bd_106_10) ?_
    refine Eq.trans (be_iconst (v := 1) bd_106_11 (by decide)) ?_
    refine Eq.trans (be_iand bd_106_12) ?_
    refine Eq.trans (be_if_ne (t := 30) bd_106_13 rfl) ?_
    refine bn_if_c ?_ ?_
    · rfl
    · refine Eq.trans (be_iload_n bd_106_30 rfl) ?_
      exact be_ireturn bd_106_31 rfl
theorem bs_X3_nth_16 (a0 : Int32) (a1 : Int32) (a2 : Int32) (a3 : Int32) (h : bn_H) : bn_ev 106 16 [some (.int a0), some (.int a1), some (.int a2), some (.int a3)] [] h = bn_ev 106 4 [some (.int a0), some (.int a1), some (.int (a2 + 1)), some (.int (a3 - ((bn_shr a0 a2) &&& 1)))] [] h := by
  refine Eq.trans (be_iload_n bd_106_16 rfl) ?_
  refine Eq.trans (be_iload_n bd_106_17 rfl) ?_
  refine Eq.trans (be_iload_n bd_106_18 rfl) ?_
  refine Eq.trans (be_ishr bd_106_19) ?_
  refine Eq.trans (be_iconst (v := 1) bd_106_20 (by decide)) ?_
  refine Eq.trans (be_iand bd_106_21) ?_
  refine Eq.trans (be_isub bd_106_22) ?_
  refine Eq.trans (be_istore_n (ls' := [some (.int a0), some (.int a1), some (.int a2), some (.int (a3 - ((bn_shr a0 a2) &&& 1)))]) bd_106_23 (Nat.le_of_ble_eq_true rfl) rfl) ?_
  refine Eq.trans (be_iinc (v := 1) (ls' := [some (.int a0), some (.int a1), some (.int (a2 + 1)), some (.int (a3 - ((bn_shr a0 a2) &&& 1)))]) bd_106_24 rfl (by decide) (Nat.le_of_ble_eq_true rfl) rfl) ?_
  refine Eq.trans (be_goto (t := 4) bd_106_27 rfl) ?_
  rfl
theorem bs_X3_night_0 (a0 : Nat) (h : bn_H) : bn_ev 107 0 [some (.ref a0), none, none, none, none, none] [] h = bn_gd (bn_isC h a0 3) (bn_cI (bn_ev 104 0 [some (.ref a0), none, none] [] h) (fun x2 h1 => if x2 = 0 then (some (some (.int (-9)), h1)) else (bn_gd (bn_isC h1 a0 3) (bn_cV (bn_ev 94 0 [some (.ref a0), none] [] h1) (fun h3 => bn_gJ h3 a0 3 12 (fun y5 => (bn_pf h3 a0 3 12 (.long ((y5 * 6364136223846793005) + 1442695040888963407))).bind (fun h6 => bn_gJ h6 a0 3 12 (fun y7 => bn_cI (bn_ev 105 0 [some (.int x2), none, none] [] h6) (fun x9 h8 => if x9 = 0 then none else (bn_cI (bn_ev 106 0 [some (.int x2), some (.int (bn_rem ((bn_lushr y7 33).toInt32) x9)), none, none] [] h8) (fun x11 h10 => bn_ev 107 58 [some (.ref a0), some (.int x2), some (.int ((bn_lushr y7 33).toInt32)), some (.int x11), some (.int 0), some (.int 0)] [] h10))))))))))) := by
  refine Eq.trans (be_aload_n bd_107_0 rfl) ?_
  refine Eq.trans (be_virtI (as := []) (rr := []) (en := [some (.ref a0), none, none]) bd_107_1 bm_3_158 rfl rfl rfl ⟨Nat.le_of_ble_eq_true rfl, Nat.le_of_ble_eq_true rfl, Nat.le_of_ble_eq_true rfl, Nat.le_of_ble_eq_true rfl⟩ (Or.inl rfl)) ?_
  refine bn_gd_c (bn_cI_c fun x2 h1 => ?_)
  refine Eq.trans (be_istore_n (ls' := [some (.ref a0), some (.int x2), none, none, none, none]) bd_107_4 (Nat.le_of_ble_eq_true rfl) rfl) ?_
  refine Eq.trans (be_iload_n bd_107_5 rfl) ?_
  refine Eq.trans (be_if_ne (t := 12) bd_107_6 rfl) ?_
  refine bn_if_c ?_ ?_
  · refine Eq.trans (be_bipush (v := (-9)) bd_107_9 (by decide)) ?_
    exact be_ireturn bd_107_11 rfl
  · refine Eq.trans (be_aload_n bd_107_12 rfl) ?_
    refine Eq.trans (be_virtV (as := []) (rr := []) (en := [some (.ref a0), none]) bd_107_13 bm_3_145 rfl rfl rfl ⟨Nat.le_of_ble_eq_true rfl, Nat.le_of_ble_eq_true rfl, Nat.le_of_ble_eq_true rfl, Nat.le_of_ble_eq_true rfl⟩ rfl) ?_
    refine bn_gd_c (bn_cV_c fun h3 => ?_)
    refine Eq.trans (be_aload_n bd_107_16 rfl) ?_
    refine Eq.trans (be_aload_n bd_107_17 rfl) ?_
    refine Eq.trans (be_getJ bd_107_18 bf_3_134 rfl) ?_
    refine bn_gJ_c fun y5 => ?_
    refine Eq.trans (be_ldc2w (v := 6364136223846793005) bd_107_21 rfl) ?_
    refine Eq.trans (be_lmul bd_107_24) ?_
    refine Eq.trans (be_ldc2w (v := 1442695040888963407) bd_107_25 rfl) ?_
    refine Eq.trans (be_ladd bd_107_28) ?_
    refine Eq.trans (be_putJ bd_107_29 bf_3_134 rfl rfl) ?_
    refine bn_bd_c fun h6 => ?_
    refine Eq.trans (be_aload_n bd_107_32 rfl) ?_
    refine Eq.trans (be_getJ bd_107_33 bf_3_134 rfl) ?_
    refine bn_gJ_c fun y7 => ?_
    refine Eq.trans (be_bipush (v := 33) bd_107_36 (by decide)) ?_
    refine Eq.trans (be_lushr bd_107_38) ?_
    refine Eq.trans (be_l2i bd_107_39) ?_
    refine Eq.trans (be_istore_n (ls' := [some (.ref a0), some (.int x2), some (.int ((bn_lushr y7 33).toInt32)), none, none, none]) bd_107_40 (Nat.le_of_ble_eq_true rfl) rfl) ?_
    refine Eq.trans (be_iload_n bd_107_41 rfl) ?_
    refine Eq.trans (be_iload_n bd_107_42 rfl) ?_
    refine Eq.trans (be_iload_n bd_107_43 rfl) ?_
    refine Eq.trans (be_statI (as := [.int x2]) (rr := [.int ((bn_lushr y7 33).toInt32), .int x2]) (en := [some (.int x2), none, none]) bd_107_44 bm_3_165 rfl rfl rfl ⟨Nat.le_of_ble_eq_true rfl, Nat.le_of_ble_eq_true rfl, Nat.le_of_ble_eq_true rfl, Nat.le_of_ble_eq_true rfl⟩ (Or.inl rfl)) ?_
    refine bn_cI_c fun x9 h8 => ?_
    refine Eq.trans (be_irem bd_107_47) ?_
    refine bn_if_c rfl ?_
    refine Eq.trans (be_statI (as := [.int (bn_rem ((bn_lushr y7 33).toInt32) x9), .int x2]) (rr := []) (en := [some (.int x2), some (.int (bn_rem ((bn_lushr y7 33).toInt32) x9)), none, none]) bd_107_48 bm_3_168 rfl rfl rfl ⟨Nat.le_of_ble_eq_true rfl, Nat.le_of_ble_eq_true rfl, Nat.le_of_ble_eq_true rfl, Nat.le_of_ble_eq_true rfl⟩ (Or.inl rfl)) ?_
    refine bn_cI_c fun x11 h10 => ?_
    refine Eq.trans (be_istore_n (ls' := [some (.ref a0), some (.int x2), some (.int ((bn_lushr y7 33).toInt32)), some (.int x11), none, none]) bd_107_51 (Nat.le_of_ble_eq_true rfl) rfl) ?_
    refine Eq.trans (be_iconst (v := 0) bd_107_52 (by decide)) ?_
    refine Eq.trans (be_istore (ls' := [some (.ref a0), some (.int x2), some (.int ((bn_lushr y7 33).toInt32)), some (.int x11), some (.int 0), none]) bd_107_53 (Nat.le_of_ble_eq_true rfl) rfl) ?_
    refine Eq.trans (be_iconst (v := 0) bd_107_55 (by decide)) ?_
    refine Eq.trans (be_istore (ls' := [some (.ref a0), some (.int x2), some (.int ((bn_lushr y7 33).toInt32)), some (.int x11), some (.int 0), some (.int 0)]) bd_107_56 (Nat.le_of_ble_eq_true rfl) rfl) ?_
    rfl
theorem bs_X3_night_58 (a0 : Nat) (a1 : Int32) (a2 : Int32) (a3 : Int32) (a4 : Int32) (a5 : Int32) (h : bn_H) : bn_ev 107 58 [some (.ref a0), some (.int a1), some (.int a2), some (.int a3), some (.int a4), some (.int a5)] [] h = bn_gI h a0 3 11 (fun x1 => if x1 ≤ a5 then (if a4 = 0 then (some (some (.int (-9)), h)) else (bn_cI (bn_ev 105 0 [some (.int a1), none, none] [] h) (fun x3 h2 => if x3 = 0 then none else (bn_cI (bn_ev 105 0 [some (.int a4), none, none] [] h2) (fun x5 h4 => if x5 = 0 then none else (bn_cI (bn_ev 106 0 [some (.int a4), some (.int (bn_rem (a2 / x3) x5)), none, none] [] h4) (fun x7 h6 => bn_gR h6 a0 3 6 (fun p8 => (bn_sd h6 p8 0 (21 + (5 * x7)) a3).bind (fun h9 => some (some (.int ((10 * a3) + x7)), h9)))))))))) else (bn_gd (bn_isC h a0 3) (bn_cI (bn_ev 89 0 [some (.ref a0), some (.int a5)] [] h) (fun x11 h10 => if 10 ≤ x11 then (bn_ev 107 58 [some (.ref a0), some (.int a1), some (.int a2), some (.int a3), some (.int (a4 ||| 0)), some (.int (a5 + 1))] [] h10) else (bn_gd (bn_isC h10 a0 3) (bn_cI (bn_ev 89 0 [some (.ref a0), some (.int a5)] [] h10) (fun x13 h12 => if x13 = a3 then (bn_ev 107 58 [some (.ref a0), some (.int a1), some (.int a2), some (.int a3), some (.int (a4 ||| 0)), some (.int (a5 + 1))] [] h12) else (bn_ev 107 58 [some (.ref a0), some (.int a1), some (.int a2), some (.int a3), some (.int (a4 ||| (bn_shl 1 a5))), some (.int (a5 + 1))] [] h12)))))))) := by
  refine Eq.trans (be_iload bd_107_58 rfl) ?_
  refine Eq.trans (be_aload_n bd_107_60 rfl) ?_
  refine Eq.trans (be_getI bd_107_61 bf_3_109 rfl) ?_
  refine bn_gI_c fun x1 => ?_
  refine Eq.trans (be_icmp_ge (t := 107) bd_107_64 rfl) ?_
  refine bn_if_c ?_ ?_
  · refine Eq.trans (be_iload bd_107_107 rfl) ?_
    refine Eq.trans (be_if_ne (t := 115) bd_107_109 rfl) ?_
    refine bn_if_c ?_ ?_
    · refine Eq.trans (be_bipush (v := (-9)) bd_107_112 (by decide)) ?_
      exact be_ireturn bd_107_114 rfl
    · refine Eq.trans (be_iload bd_107_115 rfl) ?_
      refine Eq.trans (be_iload_n bd_107_117 rfl) ?_
      refine Eq.trans (be_iload_n bd_107_118 rfl) ?_
      refine Eq.trans (be_statI (as := [.int a1]) (rr := [.int a2, .int a4]) (en := [some (.int a1), none, none]) bd_107_119 bm_3_165 rfl rfl rfl ⟨Nat.le_of_ble_eq_true rfl, Nat.le_of_ble_eq_true rfl, Nat.le_of_ble_eq_true rfl, Nat.le_of_ble_eq_true rfl⟩ (Or.inl rfl)) ?_
      refine bn_cI_c fun x3 h2 => ?_
      refine Eq.trans (be_idiv bd_107_122) ?_
      refine bn_if_c rfl ?_
      refine Eq.trans (be_iload bd_107_123 rfl) ?_
      refine Eq.trans (be_statI (as := [.int a4]) (rr := [.int (a2 / x3), .int a4]) (en := [some (.int a4), none, none]) bd_107_125 bm_3_165 rfl rfl rfl ⟨Nat.le_of_ble_eq_true rfl, Nat.le_of_ble_eq_true rfl, Nat.le_of_ble_eq_true rfl, Nat.le_of_ble_eq_true rfl⟩ (Or.inl rfl)) ?_
      refine bn_cI_c fun x5 h4 => ?_
      refine Eq.trans (be_irem bd_107_128) ?_
      refine bn_if_c rfl ?_
      refine Eq.trans (be_statI (as := [.int (bn_rem (a2 / x3) x5), .int a4]) (rr := []) (en := [some (.int a4), some (.int (bn_rem (a2 / x3) x5)), none, none]) bd_107_129 bm_3_168 rfl rfl rfl ⟨Nat.le_of_ble_eq_true rfl, Nat.le_of_ble_eq_true rfl, Nat.le_of_ble_eq_true rfl, Nat.le_of_ble_eq_true rfl⟩ (Or.inl rfl)) ?_
      refine bn_cI_c fun x7 h6 => ?_
      refine Eq.trans (be_istore (ls' := [some (.ref a0), some (.int a1), some (.int a2), some (.int a3), some (.int a4), some (.int x7)]) bd_107_132 (Nat.le_of_ble_eq_true rfl) rfl) ?_
      refine Eq.trans (be_aload_n bd_107_134 rfl) ?_
      refine Eq.trans (be_getR bd_107_135 bf_3_13 rfl (Or.inl ⟨_, rfl⟩)) ?_
      refine bn_gR_c fun p8 => ?_
      refine Eq.trans (be_bipush (v := 21) bd_107_138 (by decide)) ?_
      refine Eq.trans (be_iconst (v := 5) bd_107_140 (by decide)) ?_
      refine Eq.trans (be_iload bd_107_141 rfl) ?_
      refine Eq.trans (be_imul bd_107_143) ?_
      refine Eq.trans (be_iadd bd_107_144) ?_
      refine Eq.trans (be_iload_n bd_107_145 rfl) ?_
      refine Eq.trans (be_iastore bd_107_146) ?_
      refine bn_bd_c fun h9 => ?_
      refine Eq.trans (be_bipush (v := 10) bd_107_147 (by decide)) ?_
      refine Eq.trans (be_iload_n bd_107_149 rfl) ?_
      refine Eq.trans (be_imul bd_107_150) ?_
      refine Eq.trans (be_iload bd_107_151 rfl) ?_
      refine Eq.trans (be_iadd bd_107_153) ?_
      exact be_ireturn bd_107_154 rfl
  · refine Eq.trans (be_iload bd_107_67 rfl) ?_
    refine Eq.trans (be_aload_n bd_107_69 rfl) ?_
    refine Eq.trans (be_iload bd_107_70 rfl) ?_
    refine Eq.trans (be_virtI (as := [.int a5]) (rr := [.int a4]) (en := [some (.ref a0), some (.int a5)]) bd_107_72 bm_3_115 rfl rfl rfl ⟨Nat.le_of_ble_eq_true rfl, Nat.le_of_ble_eq_true rfl, Nat.le_of_ble_eq_true rfl, Nat.le_of_ble_eq_true rfl⟩ (Or.inl rfl)) ?_
    refine bn_gd_c (bn_cI_c fun x11 h10 => ?_)
    refine Eq.trans (be_bipush (v := 10) bd_107_75 (by decide)) ?_
    refine Eq.trans (be_icmp_ge (t := 97) bd_107_77 rfl) ?_
    refine bn_if_c ?_ ?_
    · refine Eq.trans (be_iconst (v := 0) bd_107_97 (by decide)) ?_
      refine Eq.trans (be_ior bd_107_98) ?_
      refine Eq.trans (be_istore (ls' := [some (.ref a0), some (.int a1), some (.int a2), some (.int a3), some (.int (a4 ||| 0)), some (.int a5)]) bd_107_99 (Nat.le_of_ble_eq_true rfl) rfl) ?_
      refine Eq.trans (be_iinc (v := 1) (ls' := [some (.ref a0), some (.int a1), some (.int a2), some (.int a3), some (.int (a4 ||| 0)), some (.int (a5 + 1))]) bd_107_101 rfl (by decide) (Nat.le_of_ble_eq_true rfl) rfl) ?_
      refine Eq.trans (be_goto (t := 58) bd_107_104 rfl) ?_
      rfl
    · refine Eq.trans (be_aload_n bd_107_80 rfl) ?_
      refine Eq.trans (be_iload bd_107_81 rfl) ?_
      refine Eq.trans (be_virtI (as := [.int a5]) (rr := [.int a4]) (en := [some (.ref a0), some (.int a5)]) bd_107_83 bm_3_115 rfl rfl rfl ⟨Nat.le_of_ble_eq_true rfl, Nat.le_of_ble_eq_true rfl, Nat.le_of_ble_eq_true rfl, Nat.le_of_ble_eq_true rfl⟩ (Or.inl rfl)) ?_
      refine bn_gd_c (bn_cI_c fun x13 h12 => ?_)
      refine Eq.trans (be_iload_n bd_107_86 rfl) ?_
      refine Eq.trans (be_icmp_eq (t := 97) bd_107_87 rfl) ?_
      refine bn_if_c ?_ ?_
      · refine Eq.trans (be_iconst (v := 0) bd_107_97 (by decide)) ?_
        refine Eq.trans (be_ior bd_107_98) ?_
        refine Eq.trans (be_istore (ls' := [some (.ref a0), some (.int a1), some (.int a2), some (.int a3), some (.int (a4 ||| 0)), some (.int a5)]) bd_107_99 (Nat.le_of_ble_eq_true rfl) rfl) ?_
        refine Eq.trans (be_iinc (v := 1) (ls' := [some (.ref a0), some (.int a1), some (.int a2), some (.int a3), some (.int (a4 ||| 0)), some (.int (a5 + 1))]) bd_107_101 rfl (by decide) (Nat.le_of_ble_eq_true rfl) rfl) ?_
        refine Eq.trans (be_goto (t := 58) bd_107_104 rfl) ?_
        rfl
      · refine Eq.trans (be_iconst (v := 1) bd_107_90 (by decide)) ?_
        refine Eq.trans (be_iload bd_107_91 rfl) ?_
        refine Eq.trans (be_ishl bd_107_93) ?_
        refine Eq.trans (be_goto (t := 98) bd_107_94 rfl) ?_
        refine Eq.trans (be_ior bd_107_98) ?_
        refine Eq.trans (be_istore (ls' := [some (.ref a0), some (.int a1), some (.int a2), some (.int a3), some (.int (a4 ||| (bn_shl 1 a5))), some (.int a5)]) bd_107_99 (Nat.le_of_ble_eq_true rfl) rfl) ?_
        refine Eq.trans (be_iinc (v := 1) (ls' := [some (.ref a0), some (.int a1), some (.int a2), some (.int a3), some (.int (a4 ||| (bn_shl 1 a5))), some (.int (a5 + 1))]) bd_107_101 rfl (by decide) (Nat.le_of_ble_eq_true rfl) rfl) ?_
        refine Eq.trans (be_goto (t := 58) bd_107_104 rfl) ?_
        rfl
theorem bs_X3_undo_0 (a0 : Nat) (h : bn_H) : bn_ev 108 0 [some (.ref a0), none] [] h = bn_gI h a0 3 17 (fun x1 => if x1 = 0 then (some (some (.int (-3)), h)) else (bn_gI h a0 3 17 (fun x2 => (bn_pf h a0 3 17 (.int (x2 - 1))).bind (fun h3 => bn_gI h3 a0 3 18 (fun x4 => (bn_pf h3 a0 3 18 (.int (bn_rem (x4 + 19) 20))).bind (fun h5 => bn_ev 108 36 [some (.ref a0), some (.int 0)] [] h5)))))) := by
  refine Eq.trans (be_aload_n bd_108_0 rfl) ?_
  refine Eq.trans (be_getI bd_108_1 bf_3_112 rfl) ?_
  refine bn_gI_c fun x1 => ?_
  refine Eq.trans (be_if_ne (t := 10) bd_108_4 rfl) ?_
  refine bn_if_c ?_ ?_
  · refine Eq.trans (be_bipush (v := (-3)) bd_108_7 (by decide)) ?_
    exact be_ireturn bd_108_9 rfl
  · refine Eq.trans (be_aload_n bd_108_10 rfl) ?_
    refine Eq.trans (be_dup bd_108_11 rfl) ?_
    refine Eq.trans (be_getI bd_108_12 bf_3_112 rfl) ?_
    refine bn_gI_c fun x2 => ?_
    refine Eq.trans (be_iconst (v := 1) bd_108_15 (by decide)) ?_
    refine Eq.trans (be_isub bd_108_16) ?_
    refine Eq.trans (be_putI bd_108_17 bf_3_112 rfl rfl) ?_
    refine bn_bd_c fun h3 => ?_
    refine Eq.trans (be_aload_n bd_108_20 rfl) ?_
    refine Eq.trans (be_aload_n bd_108_21 rfl) ?_
    refine Eq.trans (be_getI bd_108_22 bf_3_131 rfl) ?_
    refine bn_gI_c fun x4 => ?_
    refine Eq.trans (be_bipush (v := 19) bd_108_25 (by decide)) ?_
    refine Eq.trans (be_iadd bd_108_27) ?_
    refine Eq.trans (be_bipush (v := 20) bd_108_28 (by decide)) ?_
    refine Eq.trans (be_irem_c bd_108_30 (by decide)) ?_
    refine Eq.trans (be_putI bd_108_31 bf_3_131 rfl rfl) ?_
    refine bn_bd_c fun h5 => ?_
    refine Eq.trans (be_iconst (v := 0) bd_108_34 (by decide)) ?_
    refine Eq.trans (be_istore_n (ls' := [some (.ref a0), some (.int 0)]) bd_108_35 (Nat.le_of_ble_eq_true rfl) rfl) ?_
    rfl
theorem bs_X3_undo_36 (a0 : Nat) (a1 : Int32) (h : bn_H) : bn_ev 108 36 [some (.ref a0), some (.int a1)] [] h = if 71 ≤ a1 then (bn_gR h a0 3 20 (fun p1 => bn_gI h a0 3 18 (fun x2 => (bn_lld h p1 x2).bind (fun y3 => (bn_pf h a0 3 12 (.long y3)).bind (fun h4 => bn_gI h4 a0 3 17 (fun x5 => some (some (.int x5), h4))))))) else (bn_gR h a0 3 6 (fun p6 => bn_gR h a0 3 19 (fun p7 => bn_gI h a0 3 18 (fun x8 => (bn_ld h p7 0 ((72 * x8) + a1)).bind (fun x9 => (bn_sd h p6 0 a1 x9).bind (fun h10 => bn_ev 108 36 [some (.ref a0), some (.int (a1 + 1))] [] h10)))))) := by
  refine Eq.trans (be_iload_n bd_108_36 rfl) ?_
  refine Eq.trans (be_bipush (v := 71) bd_108_37 (by decide)) ?_
  refine Eq.trans (be_icmp_ge (t := 68) bd_108_39 rfl) ?_
  refine bn_if_c ?_ ?_
  · refine Eq.trans (be_aload_n bd_108_68 rfl) ?_
    refine Eq.trans (be_aload_n bd_108_69 rfl) ?_
    refine Eq.trans (be_getR bd_108_70 bf_3_22 rfl (Or.inl ⟨_, rfl⟩)) ?_
    refine bn_gR_c fun p1 => ?_
    refine Eq.trans (be_aload_n bd_108_73 rfl) ?_
    refine Eq.trans (be_getI bd_108_74 bf_3_131 rfl) ?_
    refine bn_gI_c fun x2 => ?_
    refine Eq.trans (be_laload bd_108_77) ?_
    refine bn_bd_c fun y3 => ?_
    refine Eq.trans (be_putJ bd_108_78 bf_3_134 rfl rfl) ?_
    refine bn_bd_c fun h4 => ?_
    refine Eq.trans (be_aload_n bd_108_81 rfl) ?_
    refine Eq.trans (be_getI bd_108_82 bf_3_112 rfl) ?_
    refine bn_gI_c fun x5 => ?_
    exact be_ireturn bd_108_85 rfl
  · refine Eq.trans (be_aload_n bd_108_42 rfl) ?_
    refine Eq.trans (be_getR bd_108_43 bf_3_13 rfl (Or.inl ⟨_, rfl⟩)) ?_
    refine bn_gR_c fun p6 => ?_
    refine Eq.trans (be_iload_n bd_108_46 rfl) ?_
    refine Eq.trans (be_aload_n bd_108_47 rfl) ?_
    refine Eq.trans (be_getR bd_108_48 bf_3_19 rfl (Or.inl ⟨_, rfl⟩)) ?_
    refine bn_gR_c fun p7 => ?_
    refine Eq.trans (be_bipush (v := 72) bd_108_51 (by decide)) ?_
    refine Eq.trans (be_aload_n bd_108_53 rfl) ?_
    refine Eq.trans (be_getI bd_108_54 bf_3_131 rfl) ?_
    refine bn_gI_c fun x8 => ?_
    refine Eq.trans (be_imul bd_108_57) ?_
    refine Eq.trans (be_iload_n bd_108_58 rfl) ?_
    refine Eq.trans (be_iadd bd_108_59) ?_
    refine Eq.trans (be_iaload bd_108_60) ?_
    refine bn_bd_c fun x9 => ?_
    refine Eq.trans (be_iastore bd_108_61) ?_
    refine bn_bd_c fun h10 => ?_
    refine Eq.trans (be_iinc (v := 1) (ls' := [some (.ref a0), some (.int (a1 + 1))]) bd_108_62 rfl (by decide) (Nat.le_of_ble_eq_true rfl) rfl) ?_
    refine Eq.trans (be_goto (t := 36) bd_108_65 rfl) ?_
    rfl
theorem bs_X3_seed_0 (a0 : Nat) (a1 : Int64) (h : bn_H) : bn_ev 109 0 [some (.ref a0), some (.long a1), none, none, none] [] h = bn_gJ h a0 3 12 (fun y1 => (bn_pf h a0 3 12 (.long a1)).bind (fun h2 => some (some (.long y1), h2))) := by
  refine Eq.trans (be_aload_n bd_109_0 rfl) ?_
  refine Eq.trans (be_getJ bd_109_1 bf_3_134 rfl) ?_
  refine bn_gJ_c fun y1 => ?_
  refine Eq.trans (be_lstore_n (ls' := [some (.ref a0), some (.long a1), none, some (.long y1), none]) bd_109_4 (Nat.le_of_ble_eq_true rfl) rfl) ?_
  refine Eq.trans (be_aload_n bd_109_5 rfl) ?_
  refine Eq.trans (be_lload_n bd_109_6 rfl) ?_
  refine Eq.trans (be_putJ bd_109_7 bf_3_134 rfl rfl) ?_
  refine bn_bd_c fun h2 => ?_
  refine Eq.trans (be_lload_n bd_109_10 rfl) ?_
  exact be_lreturn bd_109_11 rfl
theorem bs_X3_leastOf_0 (a0 : Nat) (a1 : Int32) (h : bn_H) : bn_ev 110 0 [some (.ref a0), some (.int a1), none, none] [] h = bn_ev 110 5 [some (.ref a0), some (.int a1), some (.int (-9)), some (.int 0)] [] h := by
  refine Eq.trans (be_bipush (v := (-9)) bd_110_0 (by decide)) ?_
  refine Eq.trans (be_istore_n (ls' := [some (.ref a0), some (.int a1), some (.int (-9)), none]) bd_110_2 (Nat.le_of_ble_eq_true rfl) rfl) ?_
  refine Eq.trans (be_iconst (v := 0) bd_110_3 (by decide)) ?_
  refine Eq.trans (be_istore_n (ls' := [some (.ref a0), some (.int a1), some (.int (-9)), some (.int 0)]) bd_110_4 (Nat.le_of_ble_eq_true rfl) rfl) ?_
  rfl
theorem bs_X3_leastOf_5 (a0 : Nat) (a1 : Int32) (a2 : Int32) (a3 : Int32) (h : bn_H) : bn_ev 110 5 [some (.ref a0), some (.int a1), some (.int a2), some (.int a3)] [] h = bn_gI h a0 3 11 (fun x1 => if x1 ≤ a3 then (some (some (.int a2), h)) else (bn_gd (bn_isC h a0 3) (bn_cI (bn_ev 95 0 [some (.ref a0), some (.int a1), some (.int a3), none, none, none] [] h) (fun x3 h2 => if x3 = 0 then (bn_ev 110 5 [some (.ref a0), some (.int a1), some (.int a2), some (.int (a3 + 1))] [] h2) else (if a2 = (-9) then (bn_ev 110 5 [some (.ref a0), some (.int a1), some (.int a3), some (.int (a3 + 1))] [] h2) else (bn_gd (bn_isC h2 a0 3) (bn_cI (bn_ev 88 0 [some (.ref a0), some (.int a3)] [] h2) (fun x5 h4 => bn_gd (bn_isC h4 a0 3) (bn_cI (bn_ev 88 0 [some (.ref a0), some (.int a2)] [] h4) (fun x7 h6 => if x7 ≤ x5 then (bn_ev 110 5 [some (.ref a0), some (.int a1), some (.int a2), some (.int (a3 + 1))] [] h6) else (bn_ev 110 5 [some (.ref a0), some (.int a1), some (.int a3), some (.int (a3 + 1))] [] h6))))))))))) := by
  refine Eq.trans (be_iload_n bd_110_5 rfl) ?_
  refine Eq.trans (be_aload_n bd_110_6 rfl) ?_
  refine Eq.trans (be_getI bd_110_7 bf_3_109 rfl) ?_
  refine bn_gI_c fun x1 => ?_
  refine Eq.trans (be_icmp_ge (t := 53) bd_110_10 rfl) ?_
  refine bn_if_c ?_ ?_
  · refine Eq.trans (be_iload_n bd_110_53 rfl) ?_
    exact be_ireturn bd_110_54 rfl
  · refine Eq.trans (be_aload_n bd_110_13 rfl) ?_
    refine Eq.trans (be_iload_n bd_110_14 rfl) ?_
    refine Eq.trans (be_iload_n bd_110_15 rfl) ?_
    refine Eq.trans (be_virtI (as := [.int a3, .int a1]) (rr := []) (en := [some (.ref a0), some (.int a1), some (.int a3), none, none, none]) bd_110_16 bm_3_141 rfl rfl rfl ⟨Nat.le_of_ble_eq_true rfl, Nat.le_of_ble_eq_true rfl, Nat.le_of_ble_eq_true rfl, Nat.le_of_ble_eq_true rfl⟩ (Or.inr rfl)) ?_
    refine bn_gd_c (bn_cI_c fun x3 h2 => ?_)
    refine Eq.trans (be_if_eq (t := 45) bd_110_19 rfl) ?_
    refine bn_if_c ?_ ?_
    · refine Eq.trans (be_iload_n bd_110_45 rfl) ?_
      refine Eq.trans (be_istore_n (ls' := [some (.ref a0), some (.int a1), some (.int a2), some (.int a3)]) bd_110_46 (Nat.le_of_ble_eq_true rfl) rfl) ?_
      refine Eq.trans (be_iinc (v := 1) (ls' := [some (.ref a0), some (.int a1), some (.int a2), some (.int (a3 + 1))]) bd_110_47 rfl (by decide) (Nat.le_of_ble_eq_true rfl) rfl) ?_
      refine Eq.trans (be_goto (t := 5) bd_110_50 rfl) ?_
      rfl
    · refine Eq.trans (be_iload_n bd_110_22 rfl) ?_
      refine Eq.trans (be_bipush (v := (-9)) bd_110_23 (by decide)) ?_
      refine Eq.trans (be_icmp_eq (t := 41) bd_110_25 rfl) ?_
      refine bn_if_c ?_ ?_
      · refine Eq.trans (be_iload_n bd_110_41 rfl) ?_
        refine Eq.trans (be_goto (t := 46) bd_110_42 rfl) ?_
        refine Eq.trans (be_istore_n (ls' := [some (.ref a0), some (.int a1), some (.int a3), some (.int a3)]) bd_110_46 (Nat.le_of_ble_eq_true rfl) rfl) ?_
        refine Eq.trans (be_iinc (v := 1) (ls' := [some (.ref a0), some (.int a1), some (.int a3), some (.int (a3 + 1))]) bd_110_47 rfl (by decide) (Nat.le_of_ble_eq_true rfl) rfl) ?_
        refine Eq.trans (be_goto (t := 5) bd_110_50 rfl) ?_
        rfl
      · refine Eq.trans (be_aload_n bd_110_28 rfl) ?_
        refine Eq.trans (be_iload_n bd_110_29 rfl) ?_
        refine Eq.trans (be_virtI (as := [.int a3]) (rr := []) (en := [some (.ref a0), some (.int a3)]) bd_110_30 bm_3_138 rfl rfl rfl ⟨Nat.le_of_ble_eq_true rfl, Nat.le_of_ble_eq_true rfl, Nat.le_of_ble_eq_true rfl, Nat.le_of_ble_eq_true rfl⟩ (Or.inl rfl)) ?_
        refine bn_gd_c (bn_cI_c fun x5 h4 => ?_)
        refine Eq.trans (be_aload_n bd_110_33 rfl) ?_
        refine Eq.trans (be_iload_n bd_110_34 rfl) ?_
        refine Eq.trans (be_virtI (as := [.int a2]) (rr := [.int x5]) (en := [some (.ref a0), some (.int a2)]) bd_110_35 bm_3_138 rfl rfl rfl ⟨Nat.le_of_ble_eq_true rfl, Nat.le_of_ble_eq_true rfl, Nat.le_of_ble_eq_true rfl, Nat.le_of_ble_eq_true rfl⟩ (Or.inl rfl)) ?_
        refine bn_gd_c (bn_cI_c fun x7 h6 => ?_)
        refine Eq.trans (be_icmp_ge (t := 45) bd_110_38 rfl) ?_
        refine bn_if_c ?_ ?_
        · refine Eq.trans (be_iload_n bd_110_45 rfl) ?_
          refine Eq.trans (be_istore_n (ls' := [some (.ref a0), some (.int a1), some (.int a2), some (.int a3)]) bd_110_46 (Nat.le_of_ble_eq_true rfl) rfl) ?_
          refine Eq.trans (be_iinc (v := 1) (ls' := [some (.ref a0), some (.int a1), some (.int a2), some (.int (a3 + 1))]) bd_110_47 rfl (by decide) (Nat.le_of_ble_eq_true rfl) rfl) ?_
          refine Eq.trans (be_goto (t := 5) bd_110_50 rfl) ?_
          rfl
        · refine Eq.trans (be_iload_n bd_110_41 rfl) ?_
          refine Eq.trans (be_goto (t := 46) bd_110_42 rfl) ?_
          refine Eq.trans (be_istore_n (ls' := [some (.ref a0), some (.int a1), some (.int a3), some (.int a3)]) bd_110_46 (Nat.le_of_ble_eq_true rfl) rfl) ?_
          refine Eq.trans (be_iinc (v := 1) (ls' := [some (.ref a0), some (.int a1), some (.int a3), some (.int (a3 + 1))]) bd_110_47 rfl (by decide) (Nat.le_of_ble_eq_true rfl) rfl) ?_
          refine Eq.trans (be_goto (t := 5) bd_110_50 rfl) ?_
          rfl
theorem bs_X3_layLasts_0 (a0 : Nat) (h : bn_H) : bn_ev 111 0 [some (.ref a0), none, none, none, none] [] h = (bn_pf h a0 3 22 (.int (-9))).bind (fun h1 => bn_gd (bn_isC h1 a0 3) (bn_cI (bn_ev 104 0 [some (.ref a0), none, none] [] h1) (fun x3 h2 => if x3 = 0 then (some (some (.int 0), h2)) else (bn_ev 111 17 [some (.ref a0), some (.int 0), none, none, none] [] h2)))) := by
  refine Eq.trans (be_aload_n bd_111_0 rfl) ?_
  refine Eq.trans (be_bipush (v := (-9)) bd_111_1 (by decide)) ?_
  refine Eq.trans (be_putI bd_111_3 bf_3_172 rfl rfl) ?_
  refine bn_bd_c fun h1 => ?_
  refine Eq.trans (be_aload_n bd_111_6 rfl) ?_
  refine Eq.trans (be_virtI (as := []) (rr := []) (en := [some (.ref a0), none, none]) bd_111_7 bm_3_158 rfl rfl rfl ⟨Nat.le_of_ble_eq_true rfl, Nat.le_of_ble_eq_true rfl, Nat.le_of_ble_eq_true rfl, Nat.le_of_ble_eq_true rfl⟩ (Or.inl rfl)) ?_
  refine bn_gd_c (bn_cI_c fun x3 h2 => ?_)
  refine Eq.trans (be_if_ne (t := 15) bd_111_10 rfl) ?_
  refine bn_if_c ?_ ?_
  · refine Eq.trans (be_iconst (v := 0) bd_111_13 (by decide)) ?_
    exact be_ireturn bd_111_14 rfl
  · refine Eq.trans (be_iconst (v := 0) bd_111_15 (by decide)) ?_
    refine Eq.trans (be_istore_n (ls' := [some (.ref a0), some (.int 0), none, none, none]) bd_111_16 (Nat.le_of_ble_eq_true rfl) rfl) ?_
    rfl
theorem bs_X3_layLasts_17 (a0 : Nat) (a1 : Int32) (o2 : Option Value) (o3 : Option Value) (o4 : Option Value) (h : bn_H) : bn_ev 111 17 [some (.ref a0), some (.int a1), o2, o3, o4] [] h = if 71 ≤ a1 then (bn_ev 111 46 [some (.ref a0), some (.int (-9)), some (.int 1), o3, o4] [] h) else (bn_gR h a0 3 21 (fun p1 => bn_gR h a0 3 6 (fun p2 => (bn_ld h p2 0 a1).bind (fun x3 => (bn_sd h p1 0 a1 x3).bind (fun h4 => bn_ev 111 17 [some (.ref a0), some (.int (a1 + 1)), o2, o3, o4] [] h4))))) := by
  refine Eq.trans (be_iload_n bd_111_17 rfl) ?_
  refine Eq.trans (be_bipush (v := 71) bd_111_18 (by decide)) ?_
  refine Eq.trans (be_icmp_ge (t := 41) bd_111_20 rfl) ?_
  refine bn_if_c ?_ ?_
  · refine Eq.trans (be_bipush (v := (-9)) bd_111_41 (by decide)) ?_
    refine Eq.trans (be_istore_n (ls' := [some (.ref a0), some (.int (-9)), o2, o3, o4]) bd_111_43 (Nat.le_of_ble_eq_true rfl) rfl) ?_
    refine Eq.trans (be_iconst (v := 1) bd_111_44 (by decide)) ?_
    refine Eq.trans (be_istore_n (ls' := [some (.ref a0), some (.int (-9)), some (.int 1), o3, o4]) bd_111_45 (Nat.le_of_ble_eq_true rfl) rfl) ?_
    rfl
  · refine Eq.trans (be_aload_n bd_111_23 rfl) ?_
    refine Eq.trans (be_getR bd_111_24 bf_3_26 rfl (Or.inl ⟨_, rfl⟩)) ?_
    refine bn_gR_c fun p1 => ?_
    refine Eq.trans (be_iload_n bd_111_27 rfl) ?_
    refine Eq.trans (be_aload_n bd_111_28 rfl) ?_
    refine Eq.trans (be_getR bd_111_29 bf_3_13 rfl (Or.inl ⟨_, rfl⟩)) ?_
    refine bn_gR_c fun p2 => ?_
    refine Eq.trans (be_iload_n bd_111_32 rfl) ?_
    refine Eq.trans (be_iaload bd_111_33) ?_
    refine bn_bd_c fun x3 => ?_
    refine Eq.trans (be_iastore bd_111_34) ?_
    refine bn_bd_c fun h4 => ?_
    refine Eq.trans (be_iinc (v := 1) (ls' := [some (.ref a0), some (.int (a1 + 1)), o2, o3, o4]) bd_111_35 rfl (by decide) (Nat.le_of_ble_eq_true rfl) rfl) ?_
    refine Eq.trans (be_goto (t := 17) bd_111_38 rfl) ?_
    rfl
theorem bs_X3_layLasts_46 (a0 : Nat) (a1 : Int32) (a2 : Int32) (o3 : Option Value) (o4 : Option Value) (h : bn_H) : bn_ev 111 46 [some (.ref a0), some (.int a1), some (.int a2), o3, o4] [] h = if 200 < a2 then (bn_ev 111 138 [some (.ref a0), some (.int a1), some (.int 0), o3, o4] [] h) else (if a1 = (-9) then (bn_ev 111 61 [some (.ref a0), some (.int a1), some (.int a2), some (.int 0), o4] [] h) else (bn_ev 111 138 [some (.ref a0), some (.int a1), some (.int 0), o3, o4] [] h)) := by
  refine Eq.trans (be_iload_n bd_111_46 rfl) ?_
  refine Eq.trans (be_sipush (v := 200) bd_111_47 (by decide)) ?_
  refine Eq.trans (be_icmp_gt (t := 136) bd_111_50 rfl) ?_
  refine bn_if_c ?_ ?_
  · refine Eq.trans (be_iconst (v := 0) bd_111_136 (by decide)) ?_
    refine Eq.trans (be_istore_n (ls' := [some (.ref a0), some (.int a1), some (.int 0), o3, o4]) bd_111_137 (Nat.le_of_ble_eq_true rfl) rfl) ?_
    rfl
  · refine Eq.trans (be_iload_n bd_111_53 rfl) ?_
    refine Eq.trans (be_bipush (v := (-9)) bd_111_54 (by decide)) ?_
    refine Eq.trans (be_icmp_ne (t := 136) bd_111_56 rfl) ?_
    refine bn_if_c ?_ ?_
    · refine Eq.trans (be_iconst (v := 0) bd_111_59 (by decide)) ?_
      refine Eq.trans (be_istore_n (ls' := [some (.ref a0), some (.int a1), some (.int a2), some (.int 0), o4]) bd_111_60 (Nat.le_of_ble_eq_true rfl) rfl) ?_
      rfl
    · refine Eq.trans (be_iconst (v := 0) bd_111_136 (by decide)) ?_
      refine Eq.trans (be_istore_n (ls' := [some (.ref a0), some (.int a1), some (.int 0), o3, o4]) bd_111_137 (Nat.le_of_ble_eq_true rfl) rfl) ?_
      rfl
theorem bs_X3_layLasts_61 (a0 : Nat) (a1 : Int32) (a2 : Int32) (a3 : Int32) (o4 : Option Value) (h : bn_H) : bn_ev 111 61 [some (.ref a0), some (.int a1), some (.int a2), some (.int a3), o4] [] h = bn_gI h a0 3 10 (fun x1 => if x1 ≤ a3 then (bn_gd (bn_isC h a0 3) (bn_cI (bn_ev 102 0 [some (.ref a0), none, none, none] [] h) (fun x3 h2 => if x3 = 0 then ((bn_pf h2 a0 3 22 (.int (-9))).bind (fun h4 => bn_ev 111 46 [some (.ref a0), some (.int (if x3 = 0 then (-9) else a2)), some (.int (a2 + 1)), some (.int x3), o4] [] h4)) else (bn_cI (bn_ev 106 0 [some (.int x3), some (.int 0), none, none] [] h2) (fun x6 h5 => (bn_pf h5 a0 3 22 (.int x6)).bind (fun h7 => bn_ev 111 46 [some (.ref a0), some (.int (if x3 = 0 then (-9) else a2)), some (.int (a2 + 1)), some (.int x3), o4] [] h7)))))) else (bn_gd (bn_isC h a0 3) (bn_cI (bn_ev 110 0 [some (.ref a0), some (.int a3), none, none] [] h) (fun x9 h8 => if x9 = (-9) then (bn_ev 111 61 [some (.ref a0), some (.int a1), some (.int a2), some (.int (a3 + 1)), some (.int x9)] [] h8) else (bn_gd (bn_isC h8 a0 3) (bn_cV (bn_ev 97 0 [some (.ref a0), some (.int a3), some (.int x9), none] [] h8) (fun h10 => bn_ev 111 61 [some (.ref a0), some (.int a1), some (.int a2), some (.int (a3 + 1)), some (.int x9)] [] h10))))))) := by
  refine Eq.trans (be_iload_n bd_111_61 rfl) ?_
  refine Eq.trans (be_aload_n bd_111_62 rfl) ?_
  refine Eq.trans (be_getI bd_111_63 bf_3_106 rfl) ?_
  refine bn_gI_c fun x1 => ?_
  refine Eq.trans (be_icmp_ge (t := 96) bd_111_66 rfl) ?_
  refine bn_if_c ?_ ?_
  · refine Eq.trans (be_aload_n bd_111_96 rfl) ?_
    refine Eq.trans (be_virtI (as := []) (rr := []) (en := [some (.ref a0), none, none, none]) bd_111_97 bm_3_155 rfl rfl rfl ⟨Nat.le_of_ble_eq_true rfl, Nat.le_of_ble_eq_true rfl, Nat.le_of_ble_eq_true rfl, Nat.le_of_ble_eq_true rfl⟩ (Or.inl rfl)) ?_
    refine bn_gd_c (bn_cI_c fun x3 h2 => ?_)
    refine Eq.trans (be_istore_n (ls' := [some (.ref a0), some (.int a1), some (.int a2), some (.int x3), o4]) bd_111_100 (Nat.le_of_ble_eq_true rfl) rfl) ?_
    refine Eq.trans (be_iload_n bd_111_101 rfl) ?_
    refine Eq.trans (be_if_eq (t := 109) bd_111_102 rfl) ?_
    refine Eq.trans (bn_dia (J := 111) (a := (-9)) (b := a2) (by
      refine Eq.trans (be_bipush (v := (-9)) bd_111_109 (by decide)) ?_
      rfl) (by
      refine Eq.trans (be_iload_n bd_111_105 rfl) ?_
      refine Eq.trans (be_goto (t := 111) bd_111_106 rfl) ?_
      rfl)) ?_
    refine Eq.trans (be_istore_n (ls' := [some (.ref a0), some (.int (if x3 = 0 then (-9) else a2)), some (.int a2), some (.int x3), o4]) bd_111_111 (Nat.le_of_ble_eq_true rfl) rfl) ?_
    refine Eq.trans (be_aload_n bd_111_112 rfl) ?_
    refine Eq.trans (be_iload_n bd_111_113 rfl) ?_
    refine Eq.trans (be_if_eq (t := 125) bd_111_114 rfl) ?_
    refine bn_if_c ?_ ?_
    · refine Eq.trans (be_bipush (v := (-9)) bd_111_125 (by decide)) ?_
      refine Eq.trans (be_putI bd_111_127 bf_3_172 rfl rfl) ?_
      refine bn_bd_c fun h4 => ?_
      refine Eq.trans (be_iinc (v := 1) (ls' := [some (.ref a0), some (.int (if x3 = 0 then (-9) else a2)), some (.int (a2 + 1)), some (.int x3), o4]) bd_111_130 rfl (by decide) (Nat.le_of_ble_eq_true rfl) rfl) ?_
      refine Eq.trans (be_goto (t := 46) bd_111_133 rfl) ?_
      rfl
    · refine Eq.trans (be_iload_n bd_111_117 rfl) ?_
      refine Eq.trans (be_iconst (v := 0) bd_111_118 (by decide)) ?_
      refine Eq.trans (be_statI (as := [.int 0, .int x3]) (rr := [.ref a0]) (en := [some (.int x3), some (.int 0), none, none]) bd_111_119 bm_3_168 rfl rfl rfl ⟨Nat.le_of_ble_eq_true rfl, Nat.le_of_ble_eq_true rfl, Nat.le_of_ble_eq_true rfl, Nat.le_of_ble_eq_true rfl⟩ (Or.inl rfl)) ?_
      refine bn_cI_c fun x6 h5 => ?_
      refine Eq.trans (be_goto (t := 127) bd_111_122 rfl) ?_
      refine Eq.trans (be_putI bd_111_127 bf_3_172 rfl rfl) ?_
      refine bn_bd_c fun h7 => ?_
      refine Eq.trans (be_iinc (v := 1) (ls' := [some (.ref a0), some (.int (if x3 = 0 then (-9) else a2)), some (.int (a2 + 1)), some (.int x3), o4]) bd_111_130 rfl (by decide) (Nat.le_of_ble_eq_true rfl) rfl) ?_
      refine Eq.trans (be_goto (t := 46) bd_111_133 rfl) ?_
      rfl
  · refine Eq.trans (be_aload_n bd_111_69 rfl) ?_
    refine Eq.trans (be_iload_n bd_111_70 rfl) ?_
    refine Eq.trans (be_virtI (as := [.int a3]) (rr := []) (en := [some (.ref a0), some (.int a3), none, none]) bd_111_71 bm_3_175 rfl rfl rfl ⟨Nat.le_of_ble_eq_true rfl, Nat.le_of_ble_eq_true rfl, Nat.le_of_ble_eq_true rfl, Nat.le_of_ble_eq_true rfl⟩ (Or.inl rfl)) ?_
    refine bn_gd_c (bn_cI_c fun x9 h8 => ?_)
    refine Eq.trans (be_istore (ls' := [some (.ref a0), some (.int a1), some (.int a2), some (.int a3), some (.int x9)]) bd_111_74 (Nat.le_of_ble_eq_true rfl) rfl) ?_
    refine Eq.trans (be_iload bd_111_76 rfl) ?_
    refine Eq.trans (be_bipush (v := (-9)) bd_111_78 (by decide)) ?_
    refine Eq.trans (be_icmp_eq (t := 90) bd_111_80 rfl) ?_
    refine bn_if_c ?_ ?_
    · refine Eq.trans (be_iinc (v := 1) (ls' := [some (.ref a0), some (.int a1), some (.int a2), some (.int (a3 + 1)), some (.int x9)]) bd_111_90 rfl (by decide) (Nat.le_of_ble_eq_true rfl) rfl) ?_
      refine Eq.trans (be_goto (t := 61) bd_111_93 rfl) ?_
      rfl
    · refine Eq.trans (be_aload_n bd_111_83 rfl) ?_
      refine Eq.trans (be_iload_n bd_111_84 rfl) ?_
      refine Eq.trans (be_iload bd_111_85 rfl) ?_
      refine Eq.trans (be_virtV (as := [.int x9, .int a3]) (rr := []) (en := [some (.ref a0), some (.int a3), some (.int x9), none]) bd_111_87 bm_3_148 rfl rfl rfl ⟨Nat.le_of_ble_eq_true rfl, Nat.le_of_ble_eq_true rfl, Nat.le_of_ble_eq_true rfl, Nat.le_of_ble_eq_true rfl⟩ rfl) ?_
      refine bn_gd_c (bn_cV_c fun h10 => ?_)
      refine Eq.trans (be_iinc (v := 1) (ls' := [some (.ref a0), some (.int a1), some (.int a2), some (.int (a3 + 1)), some (.int x9)]) bd_111_90 rfl (by decide) (Nat.le_of_ble_eq_true rfl) rfl) ?_
      refine Eq.trans (be_goto (t := 61) bd_111_93 rfl) ?_
      rfl
theorem bs_X3_layLasts_138 (a0 : Nat) (a1 : Int32) (a2 : Int32) (o3 : Option Value) (o4 : Option Value) (h : bn_H) : bn_ev 111 138 [some (.ref a0), some (.int a1), some (.int a2), o3, o4] [] h = if 71 ≤ a2 then (some (some (.int a1), h)) else (bn_gR h a0 3 6 (fun p1 => bn_gR h a0 3 21 (fun p2 => (bn_ld h p2 0 a2).bind (fun x3 => (bn_sd h p1 0 a2 x3).bind (fun h4 => bn_ev 111 138 [some (.ref a0), some (.int a1), some (.int (a2 + 1)), o3, o4] [] h4))))) := by
  refine Eq.trans (be_iload_n bd_111_138 rfl) ?_
  refine Eq.trans (be_bipush (v := 71) bd_111_139 (by decide)) ?_
  refine Eq.trans (be_icmp_ge (t := 162) bd_111_141 rfl) ?_
  refine bn_if_c ?_ ?_
  · refine Eq.trans (be_iload_n bd_111_162 rfl) ?_
    exact be_ireturn bd_111_163 rfl
  · refine Eq.trans (be_aload_n bd_111_144 rfl) ?_
    refine Eq.trans (be_getR bd_111_145 bf_3_13 rfl (Or.inl ⟨_, rfl⟩)) ?_
    refine bn_gR_c fun p1 => ?_
    refine Eq.trans (be_iload_n bd_111_148 rfl) ?_
    refine Eq.trans (be_aload_n bd_111_149 rfl) ?_
    refine Eq.trans (be_getR bd_111_150 bf_3_26 rfl (Or.inl ⟨_, rfl⟩)) ?_
    refine bn_gR_c fun p2 => ?_
    refine Eq.trans (be_iload_n bd_111_153 rfl) ?_
    refine Eq.trans (be_iaload bd_111_154) ?_
    refine bn_bd_c fun x3 => ?_
    refine Eq.trans (be_iastore bd_111_155) ?_
    refine bn_bd_c fun h4 => ?_
    refine Eq.trans (be_iinc (v := 1) (ls' := [some (.ref a0), some (.int a1), some (.int (a2 + 1)), o3, o4]) bd_111_156 rfl (by decide) (Nat.le_of_ble_eq_true rfl) rfl) ?_
    refine Eq.trans (be_goto (t := 138) bd_111_159 rfl) ?_
    rfl
theorem bs_X3_lasts_0 (a0 : Nat) (h : bn_H) : bn_ev 112 0 [some (.ref a0)] [] h = bn_gd (bn_isC h a0 3) (bn_cI (bn_ev 111 0 [some (.ref a0), none, none, none, none] [] h) (fun x2 h1 => some (some (.int x2), h1))) := by
  refine Eq.trans (be_aload_n bd_112_0 rfl) ?_
  refine Eq.trans (be_virtI (as := []) (rr := []) (en := [some (.ref a0), none, none, none, none]) bd_112_1 bm_3_178 rfl rfl rfl ⟨Nat.le_of_ble_eq_true rfl, Nat.le_of_ble_eq_true rfl, Nat.le_of_ble_eq_true rfl, Nat.le_of_ble_eq_true rfl⟩ (Or.inl rfl)) ?_
  refine bn_gd_c (bn_cI_c fun x2 h1 => ?_)
  exact be_ireturn bd_112_4 rfl
theorem bs_X3_first_0 (a0 : Nat) (h : bn_H) : bn_ev 113 0 [some (.ref a0)] [] h = bn_gd (bn_isC h a0 3) (bn_cI (bn_ev 111 0 [some (.ref a0), none, none, none, none] [] h) (fun x2 h1 => bn_gI h1 a0 3 22 (fun x3 => some (some (.int x3), h1)))) := by
  refine Eq.trans (be_aload_n bd_113_0 rfl) ?_
  refine Eq.trans (be_virtI (as := []) (rr := []) (en := [some (.ref a0), none, none, none, none]) bd_113_1 bm_3_178 rfl rfl rfl ⟨Nat.le_of_ble_eq_true rfl, Nat.le_of_ble_eq_true rfl, Nat.le_of_ble_eq_true rfl, Nat.le_of_ble_eq_true rfl⟩ (Or.inl rfl)) ?_
  refine bn_gd_c (bn_cI_c fun x2 h1 => ?_)
  refine Eq.trans (be_pop bd_113_4 rfl) ?_
  refine Eq.trans (be_aload_n bd_113_5 rfl) ?_
  refine Eq.trans (be_getI bd_113_6 bf_3_172 rfl) ?_
  refine bn_gI_c fun x3 => ?_
  exact be_ireturn bd_113_9 rfl
theorem bs_X3_layGood_0 (a0 : Nat) (h : bn_H) : bn_ev 114 0 [some (.ref a0), none, none, none] [] h = bn_ev 114 4 [some (.ref a0), some (.int 0), some (.int 0), none] [] h := by
  refine Eq.trans (be_iconst (v := 0) bd_114_0 (by decide)) ?_
  refine Eq.trans (be_istore_n (ls' := [some (.ref a0), some (.int 0), none, none]) bd_114_1 (Nat.le_of_ble_eq_true rfl) rfl) ?_
  refine Eq.trans (be_iconst (v := 0) bd_114_2 (by decide)) ?_
  refine Eq.trans (be_istore_n (ls' := [some (.ref a0), some (.int 0), some (.int 0), none]) bd_114_3 (Nat.le_of_ble_eq_true rfl) rfl) ?_
  rfl
theorem bs_X3_layGood_4 (a0 : Nat) (a1 : Int32) (a2 : Int32) (o3 : Option Value) (h : bn_H) : bn_ev 114 4 [some (.ref a0), some (.int a1), some (.int a2), o3] [] h = bn_gI h a0 3 11 (fun x1 => if x1 ≤ a2 then (some (some (.int a1), h)) else (bn_gd (bn_isC h a0 3) (bn_cI (bn_ev 89 0 [some (.ref a0), some (.int a2)] [] h) (fun x3 h2 => if 10 ≤ x3 then (bn_ev 114 4 [some (.ref a0), some (.int a1), some (.int (a2 + 1)), o3] [] h2) else (bn_gd (bn_isC h2 a0 3) (bn_cI (bn_ev 90 0 [some (.ref a0), some (.int a2)] [] h2) (fun x5 h4 => if x5 = 0 then (bn_ev 114 32 [some (.ref a0), some (.int a1), some (.int a2), some (.int a1)] [] h4) else (bn_ev 114 4 [some (.ref a0), some (.int a1), some (.int (a2 + 1)), o3] [] h4)))))))) := by
  refine Eq.trans (be_iload_n bd_114_4 rfl) ?_
  refine Eq.trans (be_aload_n bd_114_5 rfl) ?_
  refine Eq.trans (be_getI bd_114_6 bf_3_109 rfl) ?_
  refine bn_gI_c fun x1 => ?_
  refine Eq.trans (be_icmp_ge (t := 114) bd_114_9 rfl) ?_
  refine bn_if_c ?_ ?_
  · refine Eq.trans (be_iload_n bd_114_114 rfl) ?_
    exact be_ireturn bd_114_115 rfl
  · refine Eq.trans (be_aload_n bd_114_12 rfl) ?_
    refine Eq.trans (be_iload_n bd_114_13 rfl) ?_
    refine Eq.trans (be_virtI (as := [.int a2]) (rr := []) (en := [some (.ref a0), some (.int a2)]) bd_114_14 bm_3_115 rfl rfl rfl ⟨Nat.le_of_ble_eq_true rfl, Nat.le_of_ble_eq_true rfl, Nat.le_of_ble_eq_true rfl, Nat.le_of_ble_eq_true rfl⟩ (Or.inl rfl)) ?_
    refine bn_gd_c (bn_cI_c fun x3 h2 => ?_)
    refine Eq.trans (be_bipush (v := 10) bd_114_17 (by decide)) ?_
    refine Eq.trans (be_icmp_ge (t := 108) bd_114_19 rfl) ?_
    refine bn_if_c ?_ ?_
    · refine Eq.trans (be_iinc (v := 1) (ls' := [some (.ref a0), some (.int a1), some (.int (a2 + 1)), o3]) bd_114_108 rfl (by decide) (Nat.le_of_ble_eq_true rfl) rfl) ?_
      refine Eq.trans (be_goto (t := 4) bd_114_111 rfl) ?_
      rfl
    · refine Eq.trans (be_aload_n bd_114_22 rfl) ?_
      refine Eq.trans (be_iload_n bd_114_23 rfl) ?_
      refine Eq.trans (be_virtI (as := [.int a2]) (rr := []) (en := [some (.ref a0), some (.int a2)]) bd_114_24 bm_3_128 rfl rfl rfl ⟨Nat.le_of_ble_eq_true rfl, Nat.le_of_ble_eq_true rfl, Nat.le_of_ble_eq_true rfl, Nat.le_of_ble_eq_true rfl⟩ (Or.inr rfl)) ?_
      refine bn_gd_c (bn_cI_c fun x5 h4 => ?_)
      refine Eq.trans (be_if_ne (t := 108) bd_114_27 rfl) ?_
      refine bn_if_c ?_ ?_
      · refine Eq.trans (be_iload_n bd_114_30 rfl) ?_
        refine Eq.trans (be_istore_n (ls' := [some (.ref a0), some (.int a1), some (.int a2), some (.int a1)]) bd_114_31 (Nat.le_of_ble_eq_true rfl) rfl) ?_
        rfl
      · refine Eq.trans (be_iinc (v := 1) (ls' := [some (.ref a0), some (.int a1), some (.int (a2 + 1)), o3]) bd_114_108 rfl (by decide) (Nat.le_of_ble_eq_true rfl) rfl) ?_
        refine Eq.trans (be_goto (t := 4) bd_114_111 rfl) ?_
        rfl
theorem bs_X3_layGood_32 (a0 : Nat) (a1 : Int32) (a2 : Int32) (a3 : Int32) (h : bn_H) : bn_ev 114 32 [some (.ref a0), some (.int a1), some (.int a2), some (.int a3)] [] h = if a3 ≤ 0 then (bn_ev 114 83 [some (.ref a0), some (.int a1), some (.int a2), some (.int a3)] [] h) else (bn_gR h a0 3 25 (fun p1 => (bn_ld h p1 0 (a3 - 1)).bind (fun x2 => bn_gI h a0 3 9 (fun x3 => bn_gR h a0 3 6 (fun p4 => (bn_ld h p4 0 (22 + (5 * a2))).bind (fun x5 => if x2 ≤ (x3 - x5) then (bn_ev 114 83 [some (.ref a0), some (.int a1), some (.int a2), some (.int a3)] [] h) else (bn_gR h a0 3 25 (fun p6 => bn_gR h a0 3 25 (fun p7 => (bn_ld h p7 0 (a3 - 1)).bind (fun x8 => (bn_sd h p6 0 a3 x8).bind (fun h9 => bn_ev 114 32 [some (.ref a0), some (.int a1), some (.int a2), some (.int (a3 + (-1)))] [] h9))))))))))) := by
  refine Eq.trans (be_iload_n bd_114_32 rfl) ?_
  refine Eq.trans (be_if_le (t := 83) bd_114_33 rfl) ?_
  refine bn_if_c ?_ ?_
  · rfl
  · refine Eq.trans (be_aload_n bd_114_36 rfl) ?_
    refine Eq.trans (be_getR bd_114_37 bf_3_36 rfl (Or.inl ⟨_, rfl⟩)) ?_
    refine bn_gR_c fun p1 => ?_
    refine Eq.trans (be_iload_n bd_114_40 rfl) ?_
    refine Eq.trans (be_iconst (v := 1) bd_114_41 (by decide)) ?_
    refine Eq.trans (be_isub bd_114_42) ?_
    refine Eq.trans (be_iaload bd_114_43) ?_
    refine bn_bd_c fun x2 => ?_
    refine Eq.trans (be_aload_n bd_114_44 rfl) ?_
    refine Eq.trans (be_getI bd_114_45 bf_3_52 rfl) ?_
    refine bn_gI_c fun x3 => ?_
    refine Eq.trans (be_aload_n bd_114_48 rfl) ?_
    refine Eq.trans (be_getR bd_114_49 bf_3_13 rfl (Or.inl ⟨_, rfl⟩)) ?_
    refine bn_gR_c fun p4 => ?_
    refine Eq.trans (be_bipush (v := 22) bd_114_52 (by decide)) ?_
    refine Eq.trans (be_iconst (v := 5) bd_114_54 (by decide)) ?_
    refine Eq.trans (be_iload_n bd_114_55 rfl) ?_
    refine Eq.trans (be_imul bd_114_56) ?_
    refine Eq.trans (be_iadd bd_114_57) ?_
    refine Eq.trans (be_iaload bd_114_58) ?_
    refine bn_bd_c fun x5 => ?_
    refine Eq.trans (be_isub bd_114_59) ?_
    refine Eq.trans (be_icmp_le (t := 83) bd_114_60 rfl) ?_
    refine bn_if_c ?_ ?_
    · rfl
    · refine Eq.trans (be_aload_n bd_114_63 rfl) ?_
      refine Eq.trans (be_getR bd_114_64 bf_3_36 rfl (Or.inl ⟨_, rfl⟩)) ?_
      refine bn_gR_c fun p6 => ?_
      refine Eq.trans (be_iload_n bd_114_67 rfl) ?_
      refine Eq.trans (be_aload_n bd_114_68 rfl) ?_
      refine Eq.trans (be_getR bd_114_69 bf_3_36 rfl (Or.inl ⟨_, rfl⟩)) ?_
      refine bn_gR_c fun p7 => ?_
      refine Eq.trans (be_iload_n bd_114_72 rfl) ?_
      refine Eq.trans (be_iconst (v := 1) bd_114_73 (by decide)) ?_
      refine Eq.trans (be_isub bd_114_74) ?_
      refine Eq.trans (be_iaload bd_114_75) ?_
      refine bn_bd_c fun x8 => ?_
      refine Eq.trans (be_iastore bd_114_76) ?_
      refine bn_bd_c fun h9 => ?_
      refine Eq.trans (be_iinc (v := (-1)) (ls' := [some (.ref a0), some (.int a1), some (.int a2), some (.int (a3 + (-1)))]) bd_114_77 rfl (by decide) (Nat.le_of_ble_eq_true rfl) rfl) ?_
      refine Eq.trans (be_goto (t := 32) bd_114_80 rfl) ?_
      rfl
theorem bs_X3_layGood_83 (a0 : Nat) (a1 : Int32) (a2 : Int32) (a3 : Int32) (h : bn_H) : bn_ev 114 83 [some (.ref a0), some (.int a1), some (.int a2), some (.int a3)] [] h = bn_gR h a0 3 25 (fun p1 => bn_gI h a0 3 9 (fun x2 => bn_gR h a0 3 6 (fun p3 => (bn_ld h p3 0 (22 + (5 * a2))).bind (fun x4 => (bn_sd h p1 0 a3 (x2 - x4)).bind (fun h5 => bn_ev 114 4 [some (.ref a0), some (.int (a1 + 1)), some (.int (a2 + 1)), some (.int a3)] [] h5))))) := by
  refine Eq.trans (be_aload_n bd_114_83 rfl) ?_
  refine Eq.trans (be_getR bd_114_84 bf_3_36 rfl (Or.inl ⟨_, rfl⟩)) ?_
  refine bn_gR_c fun p1 => ?_
  refine Eq.trans (be_iload_n bd_114_87 rfl) ?_
  refine Eq.trans (be_aload_n bd_114_88 rfl) ?_
  refine Eq.trans (be_getI bd_114_89 bf_3_52 rfl) ?_
  refine bn_gI_c fun x2 => ?_
  refine Eq.trans (be_aload_n bd_114_92 rfl) ?_
  refine Eq.trans (be_getR bd_114_93 bf_3_13 rfl (Or.inl ⟨_, rfl⟩)) ?_
  refine bn_gR_c fun p3 => ?_
  refine Eq.trans (be_bipush (v := 22) bd_114_96 (by decide)) ?_
  refine Eq.trans (be_iconst (v := 5) bd_114_98 (by decide)) ?_
  refine Eq.trans (be_iload_n bd_114_99 rfl) ?_
  refine Eq.trans (be_imul bd_114_100) ?_
  refine Eq.trans (be_iadd bd_114_101) ?_
  refine Eq.trans (be_iaload bd_114_102) ?_
  refine bn_bd_c fun x4 => ?_
  refine Eq.trans (be_isub bd_114_103) ?_
  refine Eq.trans (be_iastore bd_114_104) ?_
  refine bn_bd_c fun h5 => ?_
  refine Eq.trans (be_iinc (v := 1) (ls' := [some (.ref a0), some (.int (a1 + 1)), some (.int a2), some (.int a3)]) bd_114_105 rfl (by decide) (Nat.le_of_ble_eq_true rfl) rfl) ?_
  refine Eq.trans (be_iinc (v := 1) (ls' := [some (.ref a0), some (.int (a1 + 1)), some (.int (a2 + 1)), some (.int a3)]) bd_114_108 rfl (by decide) (Nat.le_of_ble_eq_true rfl) rfl) ?_
  refine Eq.trans (be_goto (t := 4) bd_114_111 rfl) ?_
  rfl
theorem bs_X3_tenTo_0 (a0 : Int32) (h : bn_H) : bn_ev 115 0 [some (.int a0)] [] h = some (some (.int (if a0 = 0 then 1 else if a0 = 1 then 10 else 100)), h) := by
  refine Eq.trans (be_iload_n bd_115_0 rfl) ?_
  refine Eq.trans (be_if_ne (t := 8) bd_115_1 rfl) ?_
  refine Eq.trans (bn_dia (J := 20) (a := 1) (b := if a0 = 1 then 10 else 100) (by
      refine Eq.trans (be_iconst (v := 1) bd_115_4 (by decide)) ?_
      refine Eq.trans (be_goto (t := 20) bd_115_5 rfl) ?_
      rfl) (by
      refine Eq.trans (be_iload_n bd_115_8 rfl) ?_
      refine Eq.trans (be_iconst (v := 1) bd_115_9 (by decide)) ?_
      refine Eq.trans (be_icmp_ne (t := 18) bd_115_10 rfl) ?_
      refine Eq.trans (bn_dia (J := 20) (a := 10) (b := 100) (by
      refine Eq.trans (be_bipush (v := 10) bd_115_13 (by decide)) ?_
      refine Eq.trans (be_goto (t := 20) bd_115_15 rfl) ?_
      rfl) (by
      refine Eq.trans (be_bipush (v := 100) bd_115_18 (by decide)) ?_
      rfl)) ?_
      rfl)) ?_
  exact be_ireturn bd_115_20 rfl
theorem bs_X3_fasted_0 (a0 : Nat) (a1 : Int32) (a2 : Int32) (a3 : Int32) (a4 : Int32) (h : bn_H) : bn_ev 116 0 [some (.ref a0), some (.int a1), some (.int a2), some (.int a3), some (.int a4), none, none, none] [] h = bn_ev 116 6 [some (.ref a0), some (.int a1), some (.int a2), some (.int a3), some (.int a4), some (.int 0), some (.int 0), none] [] h := by
  refine Eq.trans (be_iconst (v := 0) bd_116_0 (by decide)) ?_
  refine Eq.trans (be_istore (ls' := [some (.ref a0), some (.int a1), some (.int a2), some (.int a3), some (.int a4), some (.int 0), none, none]) bd_116_1 (Nat.le_of_ble_eq_true rfl) rfl) ?_
  refine Eq.trans (be_iconst (v := 0) bd_116_3 (by decide)) ?_
  refine Eq.trans (be_istore (ls' := [some (.ref a0), some (.int a1), some (.int a2), some (.int a3), some (.int a4), some (.int 0), some (.int 0), none]) bd_116_4 (Nat.le_of_ble_eq_true rfl) rfl) ?_
  rfl
theorem bs_X3_fasted_6 (a0 : Nat) (a1 : Int32) (a2 : Int32) (a3 : Int32) (a4 : Int32) (a5 : Int32) (a6 : Int32) (o7 : Option Value) (h : bn_H) : bn_ev 116 6 [some (.ref a0), some (.int a1), some (.int a2), some (.int a3), some (.int a4), some (.int a5), some (.int a6), o7] [] h = if a4 ≤ a6 then (some (some (.int a5), h)) else (bn_cI (bn_ev 115 0 [some (.int a6)] [] h) (fun x2 h1 => if x2 = 0 then none else (bn_gI h1 a0 3 8 (fun x3 => if (if ((bn_shr a2 a6) &&& 1) = 1 then 0 else if ((bn_shr a3 a6) &&& 1) = 1 then bn_rem (a1 / x2) 10 else (bn_rem (a1 / x2) 10) + 1) ≤ x3 then (bn_cI (bn_ev 115 0 [some (.int a6)] [] h1) (fun x5 h4 => bn_ev 116 6 [some (.ref a0), some (.int a1), some (.int a2), some (.int a3), some (.int a4), some (.int (a5 + ((if ((bn_shr a2 a6) &&& 1) = 1 then 0 else if ((bn_shr a3 a6) &&& 1) = 1 then bn_rem (a1 / x2) 10 else (bn_rem (a1 / x2) 10) + 1) * x5))), some (.int (a6 + 1)), some (.int (if ((bn_shr a2 a6) &&& 1) = 1 then 0 else if ((bn_shr a3 a6) &&& 1) = 1 then bn_rem (a1 / x2) 10 else (bn_rem (a1 / x2) 10) + 1))] [] h4)) else (some (some (.int (-9)), h1)))))) := by
  refine Eq.trans (be_iload bd_116_6 rfl) ?_
  refine Eq.trans (be_iload bd_116_8 rfl) ?_
  refine Eq.trans (be_icmp_ge (t := 91) bd_116_10 rfl) ?_
  refine bn_if_c ?_ ?_
  · refine Eq.trans (be_iload bd_116_91 rfl) ?_
    exact be_ireturn bd_116_93 rfl
  · refine Eq.trans (be_iload_n bd_116_13 rfl) ?_
    refine Eq.trans (be_iload bd_116_14 rfl) ?_
    refine Eq.trans (be_statI (as := [.int a6]) (rr := [.int a1]) (en := [some (.int a6)]) bd_116_16 bm_3_181 rfl rfl rfl ⟨Nat.le_of_ble_eq_true rfl, Nat.le_of_ble_eq_true rfl, Nat.le_of_ble_eq_true rfl, Nat.le_of_ble_eq_true rfl⟩ (Or.inl rfl)) ?_
    refine bn_cI_c fun x2 h1 => ?_
    refine Eq.trans (be_idiv bd_116_19) ?_
    refine bn_if_c rfl ?_
    refine Eq.trans (be_bipush (v := 10) bd_116_20 (by decide)) ?_
    refine Eq.trans (be_irem_c bd_116_22 (by decide)) ?_
    refine Eq.trans (be_istore (ls' := [some (.ref a0), some (.int a1), some (.int a2), some (.int a3), some (.int a4), some (.int a5), some (.int a6), some (.int (bn_rem (a1 / x2) 10))]) bd_116_23 (Nat.le_of_ble_eq_true rfl) rfl) ?_
    refine Eq.trans (be_iload_n bd_116_25 rfl) ?_
    refine Eq.trans (be_iload bd_116_26 rfl) ?_
    refine Eq.trans (be_ishr bd_116_28) ?_
    refine Eq.trans (be_iconst (v := 1) bd_116_29 (by decide)) ?_
    refine Eq.trans (be_iand bd_116_30) ?_
    refine Eq.trans (be_iconst (v := 1) bd_116_31 (by decide)) ?_
    refine Eq.trans (be_icmp_ne (t := 39) bd_116_32 rfl) ?_
    refine Eq.trans (bn_dia (J := 58) (a := 0) (b := if ((bn_shr a3 a6) &&& 1) = 1 then bn_rem (a1 / x2) 10 else (bn_rem (a1 / x2) 10) + 1) (by
      refine Eq.trans (be_iconst (v := 0) bd_116_35 (by decide)) ?_
      refine Eq.trans (be_goto (t := 58) bd_116_36 rfl) ?_
      rfl) (by
      refine Eq.trans (be_iload_n bd_116_39 rfl) ?_
      refine Eq.trans (be_iload bd_116_40 rfl) ?_
      refine Eq.trans (be_ishr bd_116_42) ?_
      refine Eq.trans (be_iconst (v := 1) bd_116_43 (by decide)) ?_
      refine Eq.trans (be_iand bd_116_44) ?_
      refine Eq.trans (be_iconst (v := 1) bd_116_45 (by decide)) ?_
      refine Eq.trans (be_icmp_ne (t := 54) bd_116_46 rfl) ?_
      refine Eq.trans (bn_dia (J := 58) (a := bn_rem (a1 / x2) 10) (b := (bn_rem (a1 / x2) 10) + 1) (by
      refine Eq.trans (be_iload bd_116_49 rfl) ?_
      refine Eq.trans (be_goto (t := 58) bd_116_51 rfl) ?_
      rfl) (by
      refine Eq.trans (be_iload bd_116_54 rfl) ?_
      refine Eq.trans (be_iconst (v := 1) bd_116_56 (by decide)) ?_
      refine Eq.trans (be_iadd bd_116_57) ?_
      rfl)) ?_
      rfl)) ?_
    refine Eq.trans (be_istore (ls' := [some (.ref a0), some (.int a1), some (.int a2), some (.int a3), some (.int a4), some (.int a5), some (.int a6), some (.int (if ((bn_shr a2 a6) &&& 1) = 1 then 0 else if ((bn_shr a3 a6) &&& 1) = 1 then bn_rem (a1 / x2) 10 else (bn_rem (a1 / x2) 10) + 1))]) bd_116_58 (Nat.le_of_ble_eq_true rfl) rfl) ?_
    refine Eq.trans (be_iload bd_116_60 rfl) ?_
    refine Eq.trans (be_aload_n bd_116_62 rfl) ?_
    refine Eq.trans (be_getI bd_116_63 bf_3_48 rfl) ?_
    refine bn_gI_c fun x3 => ?_
    refine Eq.trans (be_icmp_le (t := 72) bd_116_66 rfl) ?_
    refine bn_if_c ?_ ?_
    · refine Eq.trans (be_iload bd_116_72 rfl) ?_
      refine Eq.trans (be_iload bd_116_74 rfl) ?_
      refine Eq.trans (be_iload bd_116_76 rfl) ?_
      refine Eq.trans (be_statI (as := [.int a6]) (rr := [.int (if ((bn_shr a2 a6) &&& 1) = 1 then 0 else if ((bn_shr a3 a6) &&& 1) = 1 then bn_rem (a1 / x2) 10 else (bn_rem (a1 / x2) 10) + 1), .int a5]) (en := [some (.int a6)]) bd_116_78 bm_3_181 rfl rfl rfl ⟨Nat.le_of_ble_eq_true rfl, Nat.le_of_ble_eq_true rfl, Nat.le_of_ble_eq_true rfl, Nat.le_of_ble_eq_true rfl⟩ (Or.inl rfl)) ?_
      refine bn_cI_c fun x5 h4 => ?_
      refine Eq.trans (be_imul bd_116_81) ?_
      refine Eq.trans (be_iadd bd_116_82) ?_
      refine Eq.trans (be_istore (ls' := [some (.ref a0), some (.int a1), some (.int a2), some (.int a3), some (.int a4), some (.int (a5 + ((if ((bn_shr a2 a6) &&& 1) = 1 then 0 else if ((bn_shr a3 a6) &&& 1) = 1 then bn_rem (a1 / x2) 10 else (bn_rem (a1 / x2) 10) + 1) * x5))), some (.int a6), some (.int (if ((bn_shr a2 a6) &&& 1) = 1 then 0 else if ((bn_shr a3 a6) &&& 1) = 1 then bn_rem (a1 / x2) 10 else (bn_rem (a1 / x2) 10) + 1))]) bd_116_83 (Nat.le_of_ble_eq_true rfl) rfl) ?_
      refine Eq.trans (be_iinc (v := 1) (ls' := [some (.ref a0), some (.int a1), some (.int a2), some (.int a3), some (.int a4), some (.int (a5 + ((if ((bn_shr a2 a6) &&& 1) = 1 then 0 else if ((bn_shr a3 a6) &&& 1) = 1 then bn_rem (a1 / x2) 10 else (bn_rem (a1 / x2) 10) + 1) * x5))), some (.int (a6 + 1)), some (.int (if ((bn_shr a2 a6) &&& 1) = 1 then 0 else if ((bn_shr a3 a6) &&& 1) = 1 then bn_rem (a1 / x2) 10 else (bn_rem (a1 / x2) 10) + 1))]) bd_116_85 rfl (by decide) (Nat.le_of_ble_eq_true rfl) rfl) ?_
      refine Eq.trans (be_goto (t := 6) bd_116_88 rfl) ?_
      rfl
    · refine Eq.trans (be_bipush (v := (-9)) bd_116_69 (by decide)) ?_
      exact be_ireturn bd_116_71 rfl
theorem bs_X3_best_0 (a0 : Nat) (h : bn_H) : bn_ev 117 0 [some (.ref a0), none, none, none, none, none, none, none] [] h = bn_gd (bn_isC h a0 3) (bn_cI (bn_ev 104 0 [some (.ref a0), none, none] [] h) (fun x2 h1 => bn_cI (bn_ev 105 0 [some (.int x2), none, none] [] h1) (fun x4 h3 => if x4 = 0 then (some (some (.int (-3)), h3)) else (if x4 ≤ 3 then (bn_gd (bn_isC h3 a0 3) (bn_cI (bn_ev 114 0 [some (.ref a0), none, none, none] [] h3) (fun x6 h5 => bn_ev 117 36 [some (.ref a0), some (.int x2), some (.int x4), some (.int x6), some (.int 0), some (.int 0), some (.int 0), none] [] h5))) else (some (some (.int (-3)), h3)))))) := by
  refine Eq.trans (be_aload_n bd_117_0 rfl) ?_
  refine Eq.trans (be_virtI (as := []) (rr := []) (en := [some (.ref a0), none, none]) bd_117_1 bm_3_158 rfl rfl rfl ⟨Nat.le_of_ble_eq_true rfl, Nat.le_of_ble_eq_true rfl, Nat.le_of_ble_eq_true rfl, Nat.le_of_ble_eq_true rfl⟩ (Or.inl rfl)) ?_
  refine bn_gd_c (bn_cI_c fun x2 h1 => ?_)
  refine Eq.trans (be_istore_n (ls' := [some (.ref a0), some (.int x2), none, none, none, none, none, none]) bd_117_4 (Nat.le_of_ble_eq_true rfl) rfl) ?_
  refine Eq.trans (be_iload_n bd_117_5 rfl) ?_
  refine Eq.trans (be_statI (as := [.int x2]) (rr := []) (en := [some (.int x2), none, none]) bd_117_6 bm_3_165 rfl rfl rfl ⟨Nat.le_of_ble_eq_true rfl, Nat.le_of_ble_eq_true rfl, Nat.le_of_ble_eq_true rfl, Nat.le_of_ble_eq_true rfl⟩ (Or.inl rfl)) ?_
  refine bn_cI_c fun x4 h3 => ?_
  refine Eq.trans (be_istore_n (ls' := [some (.ref a0), some (.int x2), some (.int x4), none, none, none, none, none]) bd_117_9 (Nat.le_of_ble_eq_true rfl) rfl) ?_
  refine Eq.trans (be_iload_n bd_117_10 rfl) ?_
  refine Eq.trans (be_if_eq (t := 19) bd_117_11 rfl) ?_
  refine bn_if_c ?_ ?_
  · refine Eq.trans (be_bipush (v := (-3)) bd_117_19 (by decide)) ?_
    exact be_ireturn bd_117_21 rfl
  · refine Eq.trans (be_iload_n bd_117_14 rfl) ?_
    refine Eq.trans (be_iconst (v := 3) bd_117_15 (by decide)) ?_
    refine Eq.trans (be_icmp_le (t := 22) bd_117_16 rfl) ?_
    refine bn_if_c ?_ ?_
    · refine Eq.trans (be_aload_n bd_117_22 rfl) ?_
      refine Eq.trans (be_virtI (as := []) (rr := []) (en := [some (.ref a0), none, none, none]) bd_117_23 bm_3_184 rfl rfl rfl ⟨Nat.le_of_ble_eq_true rfl, Nat.le_of_ble_eq_true rfl, Nat.le_of_ble_eq_true rfl, Nat.le_of_ble_eq_true rfl⟩ (Or.inl rfl)) ?_
      refine bn_gd_c (bn_cI_c fun x6 h5 => ?_)
      refine Eq.trans (be_istore_n (ls' := [some (.ref a0), some (.int x2), some (.int x4), some (.int x6), none, none, none, none]) bd_117_26 (Nat.le_of_ble_eq_true rfl) rfl) ?_
      refine Eq.trans (be_iconst (v := 0) bd_117_27 (by decide)) ?_
      refine Eq.trans (be_istore (ls' := [some (.ref a0), some (.int x2), some (.int x4), some (.int x6), some (.int 0), none, none, none]) bd_117_28 (Nat.le_of_ble_eq_true rfl) rfl) ?_
      refine Eq.trans (be_iconst (v := 0) bd_117_30 (by decide)) ?_
      refine Eq.trans (be_istore (ls' := [some (.ref a0), some (.int x2), some (.int x4), some (.int x6), some (.int 0), some (.int 0), none, none]) bd_117_31 (Nat.le_of_ble_eq_true rfl) rfl) ?_
      refine Eq.trans (be_iconst (v := 0) bd_117_33 (by decide)) ?_
      refine Eq.trans (be_istore (ls' := [some (.ref a0), some (.int x2), some (.int x4), some (.int x6), some (.int 0), some (.int 0), some (.int 0), none]) bd_117_34 (Nat.le_of_ble_eq_true rfl) rfl) ?_
      rfl
    · refine Eq.trans (be_bipush (v := (-3)) bd_117_19 (by decide)) ?_
      exact be_ireturn bd_117_21 rfl
theorem bs_X3_best_36 (a0 : Nat) (a1 : Int32) (a2 : Int32) (a3 : Int32) (a4 : Int32) (a5 : Int32) (a6 : Int32) (o7 : Option Value) (h : bn_H) : bn_ev 117 36 [some (.ref a0), some (.int a1), some (.int a2), some (.int a3), some (.int a4), some (.int a5), some (.int a6), o7] [] h = if a2 ≤ a6 then (bn_ev 117 98 [some (.ref a0), some (.int a1), some (.int a2), some (.int a3), some (.int a4), some (.int a5), some (.int 0), o7] [] h) else (bn_cI (bn_ev 106 0 [some (.int a1), some (.int a6), none, none] [] h) (fun x2 h1 => bn_gR h1 a0 3 6 (fun p3 => (bn_ld h1 p3 0 (4 * x2)).bind (fun x4 => bn_cI (bn_ev 115 0 [some (.int a6)] [] h1) (fun x6 h5 => bn_gR h5 a0 3 6 (fun p7 => (bn_ld h5 p7 0 ((4 * x2) + 2)).bind (fun x8 => bn_ev 117 36 [some (.ref a0), some (.int a1), some (.int a2), some (.int a3), some (.int (a4 + (x4 * x6))), some (.int (a5 ||| (bn_shl x8 a6))), some (.int (a6 + 1)), some (.int x2)] [] h5))))))) := by
  refine Eq.trans (be_iload bd_117_36 rfl) ?_
  refine Eq.trans (be_iload_n bd_117_38 rfl) ?_
  refine Eq.trans (be_icmp_ge (t := 95) bd_117_39 rfl) ?_
  refine bn_if_c ?_ ?_
  · refine Eq.trans (be_iconst (v := 0) bd_117_95 (by decide)) ?_
    refine Eq.trans (be_istore (ls' := [some (.ref a0), some (.int a1), some (.int a2), some (.int a3), some (.int a4), some (.int a5), some (.int 0), o7]) bd_117_96 (Nat.le_of_ble_eq_true rfl) rfl) ?_
    rfl
  · refine Eq.trans (be_iload_n bd_117_42 rfl) ?_
    refine Eq.trans (be_iload bd_117_43 rfl) ?_
    refine Eq.trans (be_statI (as := [.int a6, .int a1]) (rr := []) (en := [some (.int a1), some (.int a6), none, none]) bd_117_45 bm_3_168 rfl rfl rfl ⟨Nat.le_of_ble_eq_true rfl, Nat.le_of_ble_eq_true rfl, Nat.le_of_ble_eq_true rfl, Nat.le_of_ble_eq_true rfl⟩ (Or.inl rfl)) ?_
    refine bn_cI_c fun x2 h1 => ?_
    refine Eq.trans (be_istore (ls' := [some (.ref a0), some (.int a1), some (.int a2), some (.int a3), some (.int a4), some (.int a5), some (.int a6), some (.int x2)]) bd_117_48 (Nat.le_of_ble_eq_true rfl) rfl) ?_
    refine Eq.trans (be_iload bd_117_50 rfl) ?_
    refine Eq.trans (be_aload_n bd_117_52 rfl) ?_
    refine Eq.trans (be_getR bd_117_53 bf_3_13 rfl (Or.inl ⟨_, rfl⟩)) ?_
    refine bn_gR_c fun p3 => ?_
    refine Eq.trans (be_iconst (v := 4) bd_117_56 (by decide)) ?_
    refine Eq.trans (be_iload bd_117_57 rfl) ?_
    refine Eq.trans (be_imul bd_117_59) ?_
    refine Eq.trans (be_iaload bd_117_60) ?_
    refine bn_bd_c fun x4 => ?_
    refine Eq.trans (be_iload bd_117_61 rfl) ?_
    refine Eq.trans (be_statI (as := [.int a6]) (rr := [.int x4, .int a4]) (en := [some (.int a6)]) bd_117_63 bm_3_181 rfl rfl rfl ⟨Nat.le_of_ble_eq_true rfl, Nat.le_of_ble_eq_true rfl, Nat.le_of_ble_eq_true rfl, Nat.le_of_ble_eq_true rfl⟩ (Or.inl rfl)) ?_
    refine bn_cI_c fun x6 h5 => ?_
    refine Eq.trans (be_imul bd_117_66) ?_
    refine Eq.trans (be_iadd bd_117_67) ?_
    refine Eq.trans (be_istore (ls' := [some (.ref a0), some (.int a1), some (.int a2), some (.int a3), some (.int (a4 + (x4 * x6))), some (.int a5), some (.int a6), some (.int x2)]) bd_117_68 (Nat.le_of_ble_eq_true rfl) rfl) ?_
    refine Eq.trans (be_iload bd_117_70 rfl) ?_
    refine Eq.trans (be_aload_n bd_117_72 rfl) ?_
    refine Eq.trans (be_getR bd_117_73 bf_3_13 rfl (Or.inl ⟨_, rfl⟩)) ?_
    refine bn_gR_c fun p7 => ?_
    refine Eq.trans (be_iconst (v := 4) bd_117_76 (by decide)) ?_
    refine Eq.trans (be_iload bd_117_77 rfl) ?_
    refine Eq.trans (be_imul bd_117_79) ?_
    refine Eq.trans (be_iconst (v := 2) bd_117_80 (by decide)) ?_
    refine Eq.trans (be_iadd bd_117_81) ?_
    refine Eq.trans (be_iaload bd_117_82) ?_
    refine bn_bd_c fun x8 => ?_
    refine Eq.trans (be_iload bd_117_83 rfl) ?_
    refine Eq.trans (be_ishl bd_117_85) ?_
    refine Eq.trans (be_ior bd_117_86) ?_
    refine Eq.trans (be_istore (ls' := [some (.ref a0), some (.int a1), some (.int a2), some (.int a3), some (.int (a4 + (x4 * x6))), some (.int (a5 ||| (bn_shl x8 a6))), some (.int a6), some (.int x2)]) bd_117_87 (Nat.le_of_ble_eq_true rfl) rfl) ?_
    refine Eq.trans (be_iinc (v := 1) (ls' := [some (.ref a0), some (.int a1), some (.int a2), some (.int a3), some (.int (a4 + (x4 * x6))), some (.int (a5 ||| (bn_shl x8 a6))), some (.int (a6 + 1)), some (.int x2)]) bd_117_89 rfl (by decide) (Nat.le_of_ble_eq_true rfl) rfl) ?_
    refine Eq.trans (be_goto (t := 36) bd_117_92 rfl) ?_
    rfl
theorem bs_X3_best_98 (a0 : Nat) (a1 : Int32) (a2 : Int32) (a3 : Int32) (a4 : Int32) (a5 : Int32) (a6 : Int32) (o7 : Option Value) (h : bn_H) : bn_ev 117 98 [some (.ref a0), some (.int a1), some (.int a2), some (.int a3), some (.int a4), some (.int a5), some (.int a6), o7] [] h = if 11000 ≤ a6 then (bn_ev 117 134 [some (.ref a0), some (.int a1), some (.int a2), some (.int a3), some (.int a4), some (.int a5), some (.int 0), o7] [] h) else (bn_gR h a0 3 23 (fun p1 => (bn_sd h p1 1 a6 (vp_nar .boolean (if a6 = a4 then 1 else 0))).bind (fun h2 => bn_ev 117 98 [some (.ref a0), some (.int a1), some (.int a2), some (.int a3), some (.int a4), some (.int a5), some (.int (a6 + 1)), o7] [] h2))) := by
  refine Eq.trans (be_iload bd_117_98 rfl) ?_
  refine Eq.trans (be_sipush (v := 11000) bd_117_100 (by decide)) ?_
  refine Eq.trans (be_icmp_ge (t := 131) bd_117_103 rfl) ?_
  refine bn_if_c ?_ ?_
  · refine Eq.trans (be_iconst (v := 0) bd_117_131 (by decide)) ?_
    refine Eq.trans (be_istore (ls' := [some (.ref a0), some (.int a1), some (.int a2), some (.int a3), some (.int a4), some (.int a5), some (.int 0), o7]) bd_117_132 (Nat.le_of_ble_eq_true rfl) rfl) ?_
    rfl
  · refine Eq.trans (be_aload_n bd_117_106 rfl) ?_
    refine Eq.trans (be_getR bd_117_107 bf_3_29 rfl (Or.inl ⟨_, rfl⟩)) ?_
    refine bn_gR_c fun p1 => ?_
    refine Eq.trans (be_iload bd_117_110 rfl) ?_
    refine Eq.trans (be_iload bd_117_112 rfl) ?_
    refine Eq.trans (be_iload bd_117_114 rfl) ?_
    refine Eq.trans (be_icmp_ne (t := 123) bd_117_116 rfl) ?_
    refine Eq.trans (bn_dia (J := 124) (a := 1) (b := 0) (by
      refine Eq.trans (be_iconst (v := 1) bd_117_119 (by decide)) ?_
      refine Eq.trans (be_goto (t := 124) bd_117_120 rfl) ?_
      rfl) (by
      refine Eq.trans (be_iconst (v := 0) bd_117_123 (by decide)) ?_
      rfl)) ?_
    refine Eq.trans (be_bastore bd_117_124) ?_
    refine bn_bd_c fun h2 => ?_
    refine Eq.trans (be_iinc (v := 1) (ls' := [some (.ref a0), some (.int a1), some (.int a2), some (.int a3), some (.int a4), some (.int a5), some (.int (a6 + 1)), o7]) bd_117_125 rfl (by decide) (Nat.le_of_ble_eq_true rfl) rfl) ?_
    refine Eq.trans (be_goto (t := 98) bd_117_128 rfl) ?_
    rfl
theorem bs_X3_best_134 (a0 : Nat) (a1 : Int32) (a2 : Int32) (a3 : Int32) (a4 : Int32) (a5 : Int32) (a6 : Int32) (o7 : Option Value) (h : bn_H) : bn_ev 117 134 [some (.ref a0), some (.int a1), some (.int a2), some (.int a3), some (.int a4), some (.int a5), some (.int a6), o7] [] h = bn_gd (bn_isC h a0 3) (bn_cI (bn_ev 118 0 [some (.ref a0), some (.int a3), some (.int a6), some (.int (if a6 = 0 then a5 else 0)), some (.int a2), none, none, none, none, none] [] h) (fun x2 h1 => if x2 = 0 then (some (some (.int a6), h1)) else (bn_ev 117 134 [some (.ref a0), some (.int a1), some (.int a2), some (.int a3), some (.int a4), some (.int a5), some (.int (a6 + 1)), o7] [] h1))) := by
  refine Eq.trans (be_aload_n bd_117_134 rfl) ?_
  refine Eq.trans (be_iload_n bd_117_135 rfl) ?_
  refine Eq.trans (be_iload bd_117_136 rfl) ?_
  refine Eq.trans (be_iload bd_117_138 rfl) ?_
  refine Eq.trans (be_if_ne (t := 148) bd_117_140 rfl) ?_
  refine Eq.trans (bn_dia (J := 149) (a := a5) (b := 0) (by
      refine Eq.trans (be_iload bd_117_143 rfl) ?_
      refine Eq.trans (be_goto (t := 149) bd_117_145 rfl) ?_
      rfl) (by
      refine Eq.trans (be_iconst (v := 0) bd_117_148 (by decide)) ?_
      rfl)) ?_
  refine Eq.trans (be_iload_n bd_117_149 rfl) ?_
  refine Eq.trans (be_virtI (as := [.int a2, .int (if a6 = 0 then a5 else 0), .int a6, .int a3]) (rr := []) (en := [some (.ref a0), some (.int a3), some (.int a6), some (.int (if a6 = 0 then a5 else 0)), some (.int a2), none, none, none, none, none]) bd_117_150 bm_3_187 rfl rfl rfl ⟨Nat.le_of_ble_eq_true rfl, Nat.le_of_ble_eq_true rfl, Nat.le_of_ble_eq_true rfl, Nat.le_of_ble_eq_true rfl⟩ (Or.inr rfl)) ?_
  refine bn_gd_c (bn_cI_c fun x2 h1 => ?_)
  refine Eq.trans (be_if_eq (t := 162) bd_117_153 rfl) ?_
  refine bn_if_c ?_ ?_
  · refine Eq.trans (be_iload bd_117_162 rfl) ?_
    exact be_ireturn bd_117_164 rfl
  · refine Eq.trans (be_iinc (v := 1) (ls' := [some (.ref a0), some (.int a1), some (.int a2), some (.int a3), some (.int a4), some (.int a5), some (.int (a6 + 1)), o7]) bd_117_156 rfl (by decide) (Nat.le_of_ble_eq_true rfl) rfl) ?_
    refine Eq.trans (be_goto (t := 134) bd_117_159 rfl) ?_
    rfl
theorem bs_X3_goOn_0 (a0 : Nat) (a1 : Int32) (a2 : Int32) (a3 : Int32) (a4 : Int32) (h : bn_H) : bn_ev 118 0 [some (.ref a0), some (.int a1), some (.int a2), some (.int a3), some (.int a4), none, none, none, none, none] [] h = bn_ev 118 6 [some (.ref a0), some (.int a1), some (.int a2), some (.int a3), some (.int a4), some (.int 0), some (.int 0), none, none, none] [] h := by
  refine Eq.trans (be_iconst (v := 0) bd_118_0 (by decide)) ?_
  refine Eq.trans (be_istore (ls' := [some (.ref a0), some (.int a1), some (.int a2), some (.int a3), some (.int a4), some (.int 0), none, none, none, none]) bd_118_1 (Nat.le_of_ble_eq_true rfl) rfl) ?_
  refine Eq.trans (be_iconst (v := 0) bd_118_3 (by decide)) ?_
  refine Eq.trans (be_istore (ls' := [some (.ref a0), some (.int a1), some (.int a2), some (.int a3), some (.int a4), some (.int 0), some (.int 0), none, none, none]) bd_118_4 (Nat.le_of_ble_eq_true rfl) rfl) ?_
  rfl
theorem bs_X3_goOn_6 (a0 : Nat) (a1 : Int32) (a2 : Int32) (a3 : Int32) (a4 : Int32) (a5 : Int32) (a6 : Int32) (o7 : Option Value) (o8 : Option Value) (o9 : Option Value) (h : bn_H) : bn_ev 118 6 [some (.ref a0), some (.int a1), some (.int a2), some (.int a3), some (.int a4), some (.int a5), some (.int a6), o7, o8, o9] [] h = if 11000 ≤ a6 then (bn_ev 118 31 [some (.ref a0), some (.int a1), some (.int a2), some (.int a3), some (.int a4), some (.int a5), some (.int 0), o7, o8, o9] [] h) else (bn_gR h a0 3 24 (fun p1 => (bn_sd h p1 1 a6 (vp_nar .boolean 0)).bind (fun h2 => bn_ev 118 6 [some (.ref a0), some (.int a1), some (.int a2), some (.int a3), some (.int a4), some (.int a5), some (.int (a6 + 1)), o7, o8, o9] [] h2))) := by
  refine Eq.trans (be_iload bd_118_6 rfl) ?_
  refine Eq.trans (be_sipush (v := 11000) bd_118_8 (by decide)) ?_
  refine Eq.trans (be_icmp_ge (t := 28) bd_118_11 rfl) ?_
  refine bn_if_c ?_ ?_
  · refine Eq.trans (be_iconst (v := 0) bd_118_28 (by decide)) ?_
    refine Eq.trans (be_istore (ls' := [some (.ref a0), some (.int a1), some (.int a2), some (.int a3), some (.int a4), some (.int a5), some (.int 0), o7, o8, o9]) bd_118_29 (Nat.le_of_ble_eq_true rfl) rfl) ?_
    rfl
  · refine Eq.trans (be_aload_n bd_118_14 rfl) ?_
    refine Eq.trans (be_getR bd_118_15 bf_3_33 rfl (Or.inl ⟨_, rfl⟩)) ?_
    refine bn_gR_c fun p1 => ?_
    refine Eq.trans (be_iload bd_118_18 rfl) ?_
    refine Eq.trans (be_iconst (v := 0) bd_118_20 (by decide)) ?_
    refine Eq.trans (be_bastore bd_118_21) ?_
    refine bn_bd_c fun h2 => ?_
    refine Eq.trans (be_iinc (v := 1) (ls' := [some (.ref a0), some (.int a1), some (.int a2), some (.int a3), some (.int a4), some (.int a5), some (.int (a6 + 1)), o7, o8, o9]) bd_118_22 rfl (by decide) (Nat.le_of_ble_eq_true rfl) rfl) ?_
    refine Eq.trans (be_goto (t := 6) bd_118_25 rfl) ?_
    rfl
theorem bs_X3_goOn_31 (a0 : Nat) (a1 : Int32) (a2 : Int32) (a3 : Int32) (a4 : Int32) (a5 : Int32) (a6 : Int32) (o7 : Option Value) (o8 : Option Value) (o9 : Option Value) (h : bn_H) : bn_ev 118 31 [some (.ref a0), some (.int a1), some (.int a2), some (.int a3), some (.int a4), some (.int a5), some (.int a6), o7, o8, o9] [] h = if 11000 ≤ a6 then (bn_ev 118 179 [some (.ref a0), some (.int a1), some (.int a2), some (.int a3), some (.int a4), some (.int a5), some (.int 0), o7, o8, o9] [] h) else (bn_gR h a0 3 23 (fun p1 => (bn_ld h p1 1 a6).bind (fun x2 => if x2 = 0 then (bn_ev 118 31 [some (.ref a0), some (.int a1), some (.int a2), some (.int a3), some (.int a4), some (.int a5), some (.int (a6 + 1)), o7, o8, o9] [] h) else (bn_ev 118 57 [some (.ref a0), some (.int a1), some (.int a2), some (.int a3), some (.int a4), some (.int a5), some (.int a6), some (.int (a6 / 1000)), o8, o9] [] h)))) := by
  refine Eq.trans (be_iload bd_118_31 rfl) ?_
  refine Eq.trans (be_sipush (v := 11000) bd_118_33 (by decide)) ?_
  refine Eq.trans (be_icmp_ge (t := 176) bd_118_36 rfl) ?_
  refine bn_if_c ?_ ?_
  · refine Eq.trans (be_iconst (v := 0) bd_118_176 (by decide)) ?_
    refine Eq.trans (be_istore (ls' := [some (.ref a0), some (.int a1), some (.int a2), some (.int a3), some (.int a4), some (.int a5), some (.int 0), o7, o8, o9]) bd_118_177 (Nat.le_of_ble_eq_true rfl) rfl) ?_
    rfl
  · refine Eq.trans (be_aload_n bd_118_39 rfl) ?_
    refine Eq.trans (be_getR bd_118_40 bf_3_29 rfl (Or.inl ⟨_, rfl⟩)) ?_
    refine bn_gR_c fun p1 => ?_
    refine Eq.trans (be_iload bd_118_43 rfl) ?_
    refine Eq.trans (be_baload bd_118_45) ?_
    refine bn_bd_c fun x2 => ?_
    refine Eq.trans (be_if_eq (t := 170) bd_118_46 rfl) ?_
    refine bn_if_c ?_ ?_
    · refine Eq.trans (be_iinc (v := 1) (ls' := [some (.ref a0), some (.int a1), some (.int a2), some (.int a3), some (.int a4), some (.int a5), some (.int (a6 + 1)), o7, o8, o9]) bd_118_170 rfl (by decide) (Nat.le_of_ble_eq_true rfl) rfl) ?_
      refine Eq.trans (be_goto (t := 31) bd_118_173 rfl) ?_
      rfl
    · refine Eq.trans (be_iload bd_118_49 rfl) ?_
      refine Eq.trans (be_sipush (v := 1000) bd_118_51 (by decide)) ?_
      refine Eq.trans (be_idiv_c bd_118_54 (by decide)) ?_
      refine Eq.trans (be_istore (ls' := [some (.ref a0), some (.int a1), some (.int a2), some (.int a3), some (.int a4), some (.int a5), some (.int a6), some (.int (a6 / 1000)), o8, o9]) bd_118_55 (Nat.le_of_ble_eq_true rfl) rfl) ?_
      rfl
theorem bs_X3_goOn_57 (a0 : Nat) (a1 : Int32) (a2 : Int32) (a3 : Int32) (a4 : Int32) (a5 : Int32) (a6 : Int32) (a7 : Int32) (o8 : Option Value) (o9 : Option Value) (h : bn_H) : bn_ev 118 57 [some (.ref a0), some (.int a1), some (.int a2), some (.int a3), some (.int a4), some (.int a5), some (.int a6), some (.int a7), o8, o9] [] h = if a1 ≤ a7 then (bn_ev 118 83 [some (.ref a0), some (.int a1), some (.int a2), some (.int a3), some (.int a4), some (.int a5), some (.int a6), some (.int a7), some (.int 0), o9] [] h) else (bn_gR h a0 3 25 (fun p1 => (bn_ld h p1 0 a7).bind (fun x2 => if a2 < x2 then (bn_ev 118 83 [some (.ref a0), some (.int a1), some (.int a2), some (.int a3), some (.int a4), some (.int a5), some (.int a6), some (.int a7), some (.int 0), o9] [] h) else (bn_ev 118 57 [some (.ref a0), some (.int a1), some (.int a2), some (.int a3), some (.int a4), some (.int a5), some (.int a6), some (.int (a7 + 1)), o8, o9] [] h)))) := by
  refine Eq.trans (be_iload bd_118_57 rfl) ?_
  refine Eq.trans (be_iload_n bd_118_59 rfl) ?_
  refine Eq.trans (be_icmp_ge (t := 80) bd_118_60 rfl) ?_
  refine bn_if_c ?_ ?_
  · refine Eq.trans (be_iconst (v := 0) bd_118_80 (by decide)) ?_
    refine Eq.trans (be_istore (ls' := [some (.ref a0), some (.int a1), some (.int a2), some (.int a3), some (.int a4), some (.int a5), some (.int a6), some (.int a7), some (.int 0), o9]) bd_118_81 (Nat.le_of_ble_eq_true rfl) rfl) ?_
    rfl
  · refine Eq.trans (be_aload_n bd_118_63 rfl) ?_
    refine Eq.trans (be_getR bd_118_64 bf_3_36 rfl (Or.inl ⟨_, rfl⟩)) ?_
    refine bn_gR_c fun p1 => ?_
    refine Eq.trans (be_iload bd_118_67 rfl) ?_
    refine Eq.trans (be_iaload bd_118_69) ?_
    refine bn_bd_c fun x2 => ?_
    refine Eq.trans (be_iload_n bd_118_70 rfl) ?_
    refine Eq.trans (be_icmp_gt (t := 80) bd_118_71 rfl) ?_
    refine bn_if_c ?_ ?_
    · refine Eq.trans (be_iconst (v := 0) bd_118_80 (by decide)) ?_
      refine Eq.trans (be_istore (ls' := [some (.ref a0), some (.int a1), some (.int a2), some (.int a3), some (.int a4), some (.int a5), some (.int a6), some (.int a7), some (.int 0), o9]) bd_118_81 (Nat.le_of_ble_eq_true rfl) rfl) ?_
      rfl
    · refine Eq.trans (be_iinc (v := 1) (ls' := [some (.ref a0), some (.int a1), some (.int a2), some (.int a3), some (.int a4), some (.int a5), some (.int a6), some (.int (a7 + 1)), o8, o9]) bd_118_74 rfl (by decide) (Nat.le_of_ble_eq_true rfl) rfl) ?_
      refine Eq.trans (be_goto (t := 57) bd_118_77 rfl) ?_
      rfl
theorem bs_X3_goOn_83 (a0 : Nat) (a1 : Int32) (a2 : Int32) (a3 : Int32) (a4 : Int32) (a5 : Int32) (a6 : Int32) (a7 : Int32) (a8 : Int32) (o9 : Option Value) (h : bn_H) : bn_ev 118 83 [some (.ref a0), some (.int a1), some (.int a2), some (.int a3), some (.int a4), some (.int a5), some (.int a6), some (.int a7), some (.int a8), o9] [] h = if (bn_shl 1 a4) ≤ a8 then (bn_ev 118 31 [some (.ref a0), some (.int a1), some (.int a2), some (.int a3), some (.int a4), some (.int a5), some (.int (a6 + 1)), some (.int a7), some (.int a8), o9] [] h) else (if (a8 &&& a3) = 0 then (bn_cI (bn_ev 105 0 [some (.int a8), none, none] [] h) (fun x2 h1 => if a1 < (a7 + x2) then (bn_ev 118 129 [some (.ref a0), some (.int a1), some (.int a2), some (.int a3), some (.int a4), some (.int a5), some (.int a6), some (.int a7), some (.int a8), o9] [] h1) else (bn_gd (bn_isC h1 a0 3) (bn_cI (bn_ev 116 0 [some (.ref a0), some (.int (bn_rem a6 1000)), some (.int a8), some (.int a3), some (.int a4), none, none, none] [] h1) (fun x4 h3 => if x4 = (-9) then (bn_ev 118 83 [some (.ref a0), some (.int a1), some (.int a2), some (.int a3), some (.int a4), some (.int a5), some (.int a6), some (.int a7), some (.int (a8 + 1)), some (.int x4)] [] h3) else (bn_gR h3 a0 3 24 (fun p5 => bn_cI (bn_ev 105 0 [some (.int a8), none, none] [] h3) (fun x7 h6 => (bn_sd h6 p5 1 ((1000 * (a7 + x7)) + x4) (vp_nar .boolean 1)).bind (fun h8 => bn_ev 118 83 [some (.ref a0), some (.int a1), some (.int a2), some (.int a3), some (.int a4), some (.int 1), some (.int a6), some (.int a7), some (.int (a8 + 1)), some (.int x4)] [] h8))))))))) else (bn_ev 118 129 [some (.ref a0), some (.int a1), some (.int a2), some (.int a3), some (.int a4), some (.int a5), some (.int a6), some (.int a7), some (.int a8), o9] [] h)) := by
  refine Eq.trans (be_iload bd_118_83 rfl) ?_
  refine Eq.trans (be_iconst (v := 1) bd_118_85 (by decide)) ?_
  refine Eq.trans (be_iload bd_118_86 rfl) ?_
  refine Eq.trans (be_ishl bd_118_88) ?_
  refine Eq.trans (be_icmp_ge (t := 170) bd_118_89 rfl) ?_
  refine bn_if_c ?_ ?_
  · refine Eq.trans (be_iinc (v := 1) (ls' := [some (.ref a0), some (.int a1), some (.int a2), some (.int a3), some (.int a4), some (.int a5), some (.int (a6 + 1)), some (.int a7), some (.int a8), o9]) bd_118_170 rfl (by decide) (Nat.le_of_ble_eq_true rfl) rfl) ?_
    refine Eq.trans (be_goto (t := 31) bd_118_173 rfl) ?_
    rfl
  · refine Eq.trans (be_iload bd_118_92 rfl) ?_
    refine Eq.trans (be_iload_n bd_118_94 rfl) ?_
    refine Eq.trans (be_iand bd_118_95) ?_
    refine Eq.trans (be_if_ne (t := 129) bd_118_96 rfl) ?_
    refine bn_if_c ?_ ?_
    · refine Eq.trans (be_iload bd_118_99 rfl) ?_
      refine Eq.trans (be_iload bd_118_101 rfl) ?_
      refine Eq.trans (be_statI (as := [.int a8]) (rr := [.int a7]) (en := [some (.int a8), none, none]) bd_118_103 bm_3_165 rfl rfl rfl ⟨Nat.le_of_ble_eq_true rfl, Nat.le_of_ble_eq_true rfl, Nat.le_of_ble_eq_true rfl, Nat.le_of_ble_eq_true rfl⟩ (Or.inl rfl)) ?_
      refine bn_cI_c fun x2 h1 => ?_
      refine Eq.trans (be_iadd bd_118_106) ?_
      refine Eq.trans (be_iload_n bd_118_107 rfl) ?_
      refine Eq.trans (be_icmp_gt (t := 129) bd_118_108 rfl) ?_
      refine bn_if_c ?_ ?_
      · rfl
      · refine Eq.trans (be_aload_n bd_118_111 rfl) ?_
        refine Eq.trans (be_iload bd_118_112 rfl) ?_
        refine Eq.trans (be_sipush (v := 1000) bd_118_114 (by decide)) ?_
        refine Eq.trans (be_irem_c bd_118_117 (by decide)) ?_
        refine Eq.trans (be_iload bd_118_118 rfl) ?_
        refine Eq.trans (be_iload_n bd_118_120 rfl) ?_
        refine Eq.trans (be_iload bd_118_121 rfl) ?_
        refine Eq.trans (be_virtI (as := [.int a4, .int a3, .int a8, .int (bn_rem a6 1000)]) (rr := []) (en := [some (.ref a0), some (.int (bn_rem a6 1000)), some (.int a8), some (.int a3), some (.int a4), none, none, none]) bd_118_123 bm_3_191 rfl rfl rfl ⟨Nat.le_of_ble_eq_true rfl, Nat.le_of_ble_eq_true rfl, Nat.le_of_ble_eq_true rfl, Nat.le_of_ble_eq_true rfl⟩ (Or.inl rfl)) ?_
        refine bn_gd_c (bn_cI_c fun x4 h3 => ?_)
        refine Eq.trans (be_goto (t := 131) bd_118_126 rfl) ?_
        refine Eq.trans (be_istore (ls' := [some (.ref a0), some (.int a1), some (.int a2), some (.int a3), some (.int a4), some (.int a5), some (.int a6), some (.int a7), some (.int a8), some (.int x4)]) bd_118_131 (Nat.le_of_ble_eq_true rfl) rfl) ?_
        refine Eq.trans (be_iload bd_118_133 rfl) ?_
        refine Eq.trans (be_bipush (v := (-9)) bd_118_135 (by decide)) ?_
        refine Eq.trans (be_icmp_eq (t := 164) bd_118_137 rfl) ?_
        refine bn_if_c ?_ ?_
        · refine Eq.trans (be_iinc (v := 1) (ls' := [some (.ref a0), some (.int a1), some (.int a2), some (.int a3), some (.int a4), some (.int a5), some (.int a6), some (.int a7), some (.int (a8 + 1)), some (.int x4)]) bd_118_164 rfl (by decide) (Nat.le_of_ble_eq_true rfl) rfl) ?_
          refine Eq.trans (be_goto (t := 83) bd_118_167 rfl) ?_
          rfl
        · refine Eq.trans (be_aload_n bd_118_140 rfl) ?_
          refine Eq.trans (be_getR bd_118_141 bf_3_33 rfl (Or.inl ⟨_, rfl⟩)) ?_
          refine bn_gR_c fun p5 => ?_
          refine Eq.trans (be_sipush (v := 1000) bd_118_144 (by decide)) ?_
          refine Eq.trans (be_iload bd_118_147 rfl) ?_
          refine Eq.trans (be_iload bd_118_149 rfl) ?_
          refine Eq.trans (be_statI (as := [.int a8]) (rr := [.int a7, .int 1000, .ref p5]) (en := [some (.int a8), none, none]) bd_118_151 bm_3_165 rfl rfl rfl ⟨Nat.le_of_ble_eq_true rfl, Nat.le_of_ble_eq_true rfl, Nat.le_of_ble_eq_true rfl, Nat.le_of_ble_eq_true rfl⟩ (Or.inl rfl)) ?_
          refine bn_cI_c fun x7 h6 => ?_
          refine Eq.trans (be_iadd bd_118_154) ?_
          refine Eq.trans (be_imul bd_118_155) ?_
          refine Eq.trans (be_iload bd_118_156 rfl) ?_
          refine Eq.trans (be_iadd bd_118_158) ?_
          refine Eq.trans (be_iconst (v := 1) bd_118_159 (by decide)) ?_
          refine Eq.trans (be_bastore bd_118_160) ?_
          refine bn_bd_c fun h8 => ?_
          refine Eq.trans (be_iconst (v := 1) bd_118_161 (by decide)) ?_
          refine Eq.trans (be_istore (ls' := [some (.ref a0), some (.int a1), some (.int a2), some (.int a3), some (.int a4), some (.int 1), some (.int a6), some (.int a7), some (.int a8), some (.int x4)]) bd_118_162 (Nat.le_of_ble_eq_true rfl) rfl) ?_
          refine Eq.trans (be_iinc (v := 1) (ls' := [some (.ref a0), some (.int a1), some (.int a2), some (.int a3), some (.int a4), some (.int 1), some (.int a6), some (.int a7), some (.int (a8 + 1)), some (.int x4)]) bd_118_164 rfl (by decide) (Nat.le_of_ble_eq_true rfl) rfl) ?_
          refine Eq.trans (be_goto (t := 83) bd_118_167 rfl) ?_
          rfl
    · rfl
theorem bs_X3_goOn_129 (a0 : Nat) (a1 : Int32) (a2 : Int32) (a3 : Int32) (a4 : Int32) (a5 : Int32) (a6 : Int32) (a7 : Int32) (a8 : Int32) (o9 : Option Value) (h : bn_H) : bn_ev 118 129 [some (.ref a0), some (.int a1), some (.int a2), some (.int a3), some (.int a4), some (.int a5), some (.int a6), some (.int a7), some (.int a8), o9] [] h = if ((-9) : Int32) = (-9) then (bn_ev 118 83 [some (.ref a0), some (.int a1), some (.int a2), some (.int a3), some (.int a4), some (.int a5), some (.int a6), some (.int a7), some (.int (a8 + 1)), some (.int (-9))] [] h) else (bn_gR h a0 3 24 (fun p1 => bn_cI (bn_ev 105 0 [some (.int a8), none, none] [] h) (fun x3 h2 => (bn_sd h2 p1 1 ((1000 * (a7 + x3)) + (-9)) (vp_nar .boolean 1)).bind (fun h4 => bn_ev 118 83 [some (.ref a0), some (.int a1), some (.int a2), some (.int a3), some (.int a4), some (.int 1), some (.int a6), some (.int a7), some (.int (a8 + 1)), some (.int (-9))] [] h4)))) := by
  refine Eq.trans (be_bipush (v := (-9)) bd_118_129 (by decide)) ?_
  refine Eq.trans (be_istore (ls' := [some (.ref a0), some (.int a1), some (.int a2), some (.int a3), some (.int a4), some (.int a5), some (.int a6), some (.int a7), some (.int a8), some (.int (-9))]) bd_118_131 (Nat.le_of_ble_eq_true rfl) rfl) ?_
  refine Eq.trans (be_iload bd_118_133 rfl) ?_
  refine Eq.trans (be_bipush (v := (-9)) bd_118_135 (by decide)) ?_
  refine Eq.trans (be_icmp_eq (t := 164) bd_118_137 rfl) ?_
  refine bn_if_c ?_ ?_
  · refine Eq.trans (be_iinc (v := 1) (ls' := [some (.ref a0), some (.int a1), some (.int a2), some (.int a3), some (.int a4), some (.int a5), some (.int a6), some (.int a7), some (.int (a8 + 1)), some (.int (-9))]) bd_118_164 rfl (by decide) (Nat.le_of_ble_eq_true rfl) rfl) ?_
    refine Eq.trans (be_goto (t := 83) bd_118_167 rfl) ?_
    rfl
  · refine Eq.trans (be_aload_n bd_118_140 rfl) ?_
    refine Eq.trans (be_getR bd_118_141 bf_3_33 rfl (Or.inl ⟨_, rfl⟩)) ?_
    refine bn_gR_c fun p1 => ?_
    refine Eq.trans (be_sipush (v := 1000) bd_118_144 (by decide)) ?_
    refine Eq.trans (be_iload bd_118_147 rfl) ?_
    refine Eq.trans (be_iload bd_118_149 rfl) ?_
    refine Eq.trans (be_statI (as := [.int a8]) (rr := [.int a7, .int 1000, .ref p1]) (en := [some (.int a8), none, none]) bd_118_151 bm_3_165 rfl rfl rfl ⟨Nat.le_of_ble_eq_true rfl, Nat.le_of_ble_eq_true rfl, Nat.le_of_ble_eq_true rfl, Nat.le_of_ble_eq_true rfl⟩ (Or.inl rfl)) ?_
    refine bn_cI_c fun x3 h2 => ?_
    refine Eq.trans (be_iadd bd_118_154) ?_
    refine Eq.trans (be_imul bd_118_155) ?_
    refine Eq.trans (be_iload bd_118_156 rfl) ?_
    refine Eq.trans (be_iadd bd_118_158) ?_
    refine Eq.trans (be_iconst (v := 1) bd_118_159 (by decide)) ?_
    refine Eq.trans (be_bastore bd_118_160) ?_
    refine bn_bd_c fun h4 => ?_
    refine Eq.trans (be_iconst (v := 1) bd_118_161 (by decide)) ?_
    refine Eq.trans (be_istore (ls' := [some (.ref a0), some (.int a1), some (.int a2), some (.int a3), some (.int a4), some (.int 1), some (.int a6), some (.int a7), some (.int a8), some (.int (-9))]) bd_118_162 (Nat.le_of_ble_eq_true rfl) rfl) ?_
    refine Eq.trans (be_iinc (v := 1) (ls' := [some (.ref a0), some (.int a1), some (.int a2), some (.int a3), some (.int a4), some (.int 1), some (.int a6), some (.int a7), some (.int (a8 + 1)), some (.int (-9))]) bd_118_164 rfl (by decide) (Nat.le_of_ble_eq_true rfl) rfl) ?_
    refine Eq.trans (be_goto (t := 83) bd_118_167 rfl) ?_
    rfl
theorem bs_X3_goOn_179 (a0 : Nat) (a1 : Int32) (a2 : Int32) (a3 : Int32) (a4 : Int32) (a5 : Int32) (a6 : Int32) (o7 : Option Value) (o8 : Option Value) (o9 : Option Value) (h : bn_H) : bn_ev 118 179 [some (.ref a0), some (.int a1), some (.int a2), some (.int a3), some (.int a4), some (.int a5), some (.int a6), o7, o8, o9] [] h = if 11000 ≤ a6 then (if a5 = 0 ∨ a5 = 1 then some (some (.int a5), h) else none) else (bn_gR h a0 3 23 (fun p1 => bn_gR h a0 3 24 (fun p2 => (bn_ld h p2 1 a6).bind (fun x3 => (bn_sd h p1 1 a6 (vp_nar .boolean x3)).bind (fun h4 => bn_ev 118 179 [some (.ref a0), some (.int a1), some (.int a2), some (.int a3), some (.int a4), some (.int a5), some (.int (a6 + 1)), o7, o8, o9] [] h4))))) := by
  refine Eq.trans (be_iload bd_118_179 rfl) ?_
  refine Eq.trans (be_sipush (v := 11000) bd_118_181 (by decide)) ?_
  refine Eq.trans (be_icmp_ge (t := 207) bd_118_184 rfl) ?_
  refine bn_if_c ?_ ?_
  · refine Eq.trans (be_iload bd_118_207 rfl) ?_
    exact be_zreturn bd_118_209 rfl
  · refine Eq.trans (be_aload_n bd_118_187 rfl) ?_
    refine Eq.trans (be_getR bd_118_188 bf_3_29 rfl (Or.inl ⟨_, rfl⟩)) ?_
    refine bn_gR_c fun p1 => ?_
    refine Eq.trans (be_iload bd_118_191 rfl) ?_
    refine Eq.trans (be_aload_n bd_118_193 rfl) ?_
    refine Eq.trans (be_getR bd_118_194 bf_3_33 rfl (Or.inl ⟨_, rfl⟩)) ?_
    refine bn_gR_c fun p2 => ?_
    refine Eq.trans (be_iload bd_118_197 rfl) ?_
    refine Eq.trans (be_baload bd_118_199) ?_
    refine bn_bd_c fun x3 => ?_
    refine Eq.trans (be_bastore bd_118_200) ?_
    refine bn_bd_c fun h4 => ?_
    refine Eq.trans (be_iinc (v := 1) (ls' := [some (.ref a0), some (.int a1), some (.int a2), some (.int a3), some (.int a4), some (.int a5), some (.int (a6 + 1)), o7, o8, o9]) bd_118_201 rfl (by decide) (Nat.le_of_ble_eq_true rfl) rfl) ?_
    refine Eq.trans (be_goto (t := 179) bd_118_204 rfl) ?_
    rfl
theorem bs_X3_greatest_0 (a0 : Nat) (h : bn_H) : bn_ev 119 0 [some (.ref a0), none, none] [] h = bn_ev 119 4 [some (.ref a0), some (.int 0), some (.int 0)] [] h := by
  refine Eq.trans (be_iconst (v := 0) bd_119_0 (by decide)) ?_
  refine Eq.trans (be_istore_n (ls' := [some (.ref a0), some (.int 0), none]) bd_119_1 (Nat.le_of_ble_eq_true rfl) rfl) ?_
  refine Eq.trans (be_iconst (v := 0) bd_119_2 (by decide)) ?_
  refine Eq.trans (be_istore_n (ls' := [some (.ref a0), some (.int 0), some (.int 0)]) bd_119_3 (Nat.le_of_ble_eq_true rfl) rfl) ?_
  rfl
theorem bs_X3_greatest_4 (a0 : Nat) (a1 : Int32) (a2 : Int32) (h : bn_H) : bn_ev 119 4 [some (.ref a0), some (.int a1), some (.int a2)] [] h = bn_gI h a0 3 11 (fun x1 => if x1 ≤ a2 then (some (some (.int a1), h)) else (bn_gd (bn_isC h a0 3) (bn_cI (bn_ev 88 0 [some (.ref a0), some (.int a2)] [] h) (fun x3 h2 => if x3 ≤ a1 then (bn_ev 119 4 [some (.ref a0), some (.int a1), some (.int (a2 + 1))] [] h2) else (bn_gd (bn_isC h2 a0 3) (bn_cI (bn_ev 88 0 [some (.ref a0), some (.int a2)] [] h2) (fun x5 h4 => bn_ev 119 4 [some (.ref a0), some (.int x5), some (.int (a2 + 1))] [] h4))))))) := by
  refine Eq.trans (be_iload_n bd_119_4 rfl) ?_
  refine Eq.trans (be_aload_n bd_119_5 rfl) ?_
  refine Eq.trans (be_getI bd_119_6 bf_3_109 rfl) ?_
  refine bn_gI_c fun x1 => ?_
  refine Eq.trans (be_icmp_ge (t := 37) bd_119_9 rfl) ?_
  refine bn_if_c ?_ ?_
  · refine Eq.trans (be_iload_n bd_119_37 rfl) ?_
    exact be_ireturn bd_119_38 rfl
  · refine Eq.trans (be_aload_n bd_119_12 rfl) ?_
    refine Eq.trans (be_iload_n bd_119_13 rfl) ?_
    refine Eq.trans (be_virtI (as := [.int a2]) (rr := []) (en := [some (.ref a0), some (.int a2)]) bd_119_14 bm_3_138 rfl rfl rfl ⟨Nat.le_of_ble_eq_true rfl, Nat.le_of_ble_eq_true rfl, Nat.le_of_ble_eq_true rfl, Nat.le_of_ble_eq_true rfl⟩ (Or.inl rfl)) ?_
    refine bn_gd_c (bn_cI_c fun x3 h2 => ?_)
    refine Eq.trans (be_iload_n bd_119_17 rfl) ?_
    refine Eq.trans (be_icmp_le (t := 29) bd_119_18 rfl) ?_
    refine bn_if_c ?_ ?_
    · refine Eq.trans (be_iload_n bd_119_29 rfl) ?_
      refine Eq.trans (be_istore_n (ls' := [some (.ref a0), some (.int a1), some (.int a2)]) bd_119_30 (Nat.le_of_ble_eq_true rfl) rfl) ?_
      refine Eq.trans (be_iinc (v := 1) (ls' := [some (.ref a0), some (.int a1), some (.int (a2 + 1))]) bd_119_31 rfl (by decide) (Nat.le_of_ble_eq_true rfl) rfl) ?_
      refine Eq.trans (be_goto (t := 4) bd_119_34 rfl) ?_
      rfl
    · refine Eq.trans (be_aload_n bd_119_21 rfl) ?_
      refine Eq.trans (be_iload_n bd_119_22 rfl) ?_
      refine Eq.trans (be_virtI (as := [.int a2]) (rr := []) (en := [some (.ref a0), some (.int a2)]) bd_119_23 bm_3_138 rfl rfl rfl ⟨Nat.le_of_ble_eq_true rfl, Nat.le_of_ble_eq_true rfl, Nat.le_of_ble_eq_true rfl, Nat.le_of_ble_eq_true rfl⟩ (Or.inl rfl)) ?_
      refine bn_gd_c (bn_cI_c fun x5 h4 => ?_)
      refine Eq.trans (be_goto (t := 30) bd_119_26 rfl) ?_
      refine Eq.trans (be_istore_n (ls' := [some (.ref a0), some (.int x5), some (.int a2)]) bd_119_30 (Nat.le_of_ble_eq_true rfl) rfl) ?_
      refine Eq.trans (be_iinc (v := 1) (ls' := [some (.ref a0), some (.int x5), some (.int (a2 + 1))]) bd_119_31 rfl (by decide) (Nat.le_of_ble_eq_true rfl) rfl) ?_
      refine Eq.trans (be_goto (t := 4) bd_119_34 rfl) ?_
      rfl
theorem bs_X3_isTold_0 (a0 : Nat) (a1 : Int32) (h : bn_H) : bn_ev 120 0 [some (.ref a0), some (.int a1), none, none] [] h = bn_ev 120 4 [some (.ref a0), some (.int a1), some (.int 0), some (.int 0)] [] h := by
  refine Eq.trans (be_iconst (v := 0) bd_120_0 (by decide)) ?_
  refine Eq.trans (be_istore_n (ls' := [some (.ref a0), some (.int a1), some (.int 0), none]) bd_120_1 (Nat.le_of_ble_eq_true rfl) rfl) ?_
  refine Eq.trans (be_iconst (v := 0) bd_120_2 (by decide)) ?_
  refine Eq.trans (be_istore_n (ls' := [some (.ref a0), some (.int a1), some (.int 0), some (.int 0)]) bd_120_3 (Nat.le_of_ble_eq_true rfl) rfl) ?_
  rfl
theorem bs_X3_isTold_4 (a0 : Nat) (a1 : Int32) (a2 : Int32) (a3 : Int32) (h : bn_H) : bn_ev 120 4 [some (.ref a0), some (.int a1), some (.int a2), some (.int a3)] [] h = bn_gI h a0 3 11 (fun x1 => if x1 ≤ a3 then (if a2 = 0 ∨ a2 = 1 then some (some (.int a2), h) else none) else (if a2 = 0 then (bn_gd (bn_isC h a0 3) (bn_cI (bn_ev 88 0 [some (.ref a0), some (.int a3)] [] h) (fun x3 h2 => if x3 = a1 then (bn_ev 120 4 [some (.ref a0), some (.int a1), some (.int 1), some (.int (a3 + 1))] [] h2) else (bn_ev 120 4 [some (.ref a0), some (.int a1), some (.int 0), some (.int (a3 + 1))] [] h2)))) else (bn_ev 120 4 [some (.ref a0), some (.int a1), some (.int 1), some (.int (a3 + 1))] [] h))) := by
  refine Eq.trans (be_iload_n bd_120_4 rfl) ?_
  refine Eq.trans (be_aload_n bd_120_5 rfl) ?_
  refine Eq.trans (be_getI bd_120_6 bf_3_109 rfl) ?_
  refine bn_gI_c fun x1 => ?_
  refine Eq.trans (be_icmp_ge (t := 37) bd_120_9 rfl) ?_
  refine bn_if_c ?_ ?_
  · refine Eq.trans (be_iload_n bd_120_37 rfl) ?_
    exact be_zreturn bd_120_38 rfl
  · refine Eq.trans (be_iload_n bd_120_12 rfl) ?_
    refine Eq.trans (be_if_ne (t := 25) bd_120_13 rfl) ?_
    refine bn_if_c ?_ ?_
    · refine Eq.trans (be_aload_n bd_120_16 rfl) ?_
      refine Eq.trans (be_iload_n bd_120_17 rfl) ?_
      refine Eq.trans (be_virtI (as := [.int a3]) (rr := []) (en := [some (.ref a0), some (.int a3)]) bd_120_18 bm_3_138 rfl rfl rfl ⟨Nat.le_of_ble_eq_true rfl, Nat.le_of_ble_eq_true rfl, Nat.le_of_ble_eq_true rfl, Nat.le_of_ble_eq_true rfl⟩ (Or.inl rfl)) ?_
      refine bn_gd_c (bn_cI_c fun x3 h2 => ?_)
      refine Eq.trans (be_iload_n bd_120_21 rfl) ?_
      refine Eq.trans (be_icmp_ne (t := 29) bd_120_22 rfl) ?_
      refine bn_if_c ?_ ?_
      · refine Eq.trans (be_iconst (v := 1) bd_120_25 (by decide)) ?_
        refine Eq.trans (be_goto (t := 30) bd_120_26 rfl) ?_
        refine Eq.trans (be_istore_n (ls' := [some (.ref a0), some (.int a1), some (.int 1), some (.int a3)]) bd_120_30 (Nat.le_of_ble_eq_true rfl) rfl) ?_
        refine Eq.trans (be_iinc (v := 1) (ls' := [some (.ref a0), some (.int a1), some (.int 1), some (.int (a3 + 1))]) bd_120_31 rfl (by decide) (Nat.le_of_ble_eq_true rfl) rfl) ?_
        refine Eq.trans (be_goto (t := 4) bd_120_34 rfl) ?_
        rfl
      · refine Eq.trans (be_iconst (v := 0) bd_120_29 (by decide)) ?_
        refine Eq.trans (be_istore_n (ls' := [some (.ref a0), some (.int a1), some (.int 0), some (.int a3)]) bd_120_30 (Nat.le_of_ble_eq_true rfl) rfl) ?_
        refine Eq.trans (be_iinc (v := 1) (ls' := [some (.ref a0), some (.int a1), some (.int 0), some (.int (a3 + 1))]) bd_120_31 rfl (by decide) (Nat.le_of_ble_eq_true rfl) rfl) ?_
        refine Eq.trans (be_goto (t := 4) bd_120_34 rfl) ?_
        rfl
    · refine Eq.trans (be_iconst (v := 1) bd_120_25 (by decide)) ?_
      refine Eq.trans (be_goto (t := 30) bd_120_26 rfl) ?_
      refine Eq.trans (be_istore_n (ls' := [some (.ref a0), some (.int a1), some (.int 1), some (.int a3)]) bd_120_30 (Nat.le_of_ble_eq_true rfl) rfl) ?_
      refine Eq.trans (be_iinc (v := 1) (ls' := [some (.ref a0), some (.int a1), some (.int 1), some (.int (a3 + 1))]) bd_120_31 rfl (by decide) (Nat.le_of_ble_eq_true rfl) rfl) ?_
      refine Eq.trans (be_goto (t := 4) bd_120_34 rfl) ?_
      rfl
theorem bs_X3_missing_0 (a0 : Nat) (a1 : Int32) (h : bn_H) : bn_ev 121 0 [some (.ref a0), some (.int a1), none, none] [] h = bn_ev 121 4 [some (.ref a0), some (.int a1), some (.int a1), some (.int 1)] [] h := by
  refine Eq.trans (be_iload_n bd_121_0 rfl) ?_
  refine Eq.trans (be_istore_n (ls' := [some (.ref a0), some (.int a1), some (.int a1), none]) bd_121_1 (Nat.le_of_ble_eq_true rfl) rfl) ?_
  refine Eq.trans (be_iconst (v := 1) bd_121_2 (by decide)) ?_
  refine Eq.trans (be_istore_n (ls' := [some (.ref a0), some (.int a1), some (.int a1), some (.int 1)]) bd_121_3 (Nat.le_of_ble_eq_true rfl) rfl) ?_
  rfl
theorem bs_X3_missing_4 (a0 : Nat) (a1 : Int32) (a2 : Int32) (a3 : Int32) (h : bn_H) : bn_ev 121 4 [some (.ref a0), some (.int a1), some (.int a2), some (.int a3)] [] h = bn_gd (bn_isC h a0 3) (bn_cI (bn_ev 119 0 [some (.ref a0), none, none] [] h) (fun x2 h1 => if x2 ≤ a3 then (some (some (.int (-9)), h1)) else (if a2 < 0 then (some (some (.int (-9)), h1)) else (bn_gd (bn_isC h1 a0 3) (bn_cI (bn_ev 120 0 [some (.ref a0), some (.int a3), none, none] [] h1) (fun x4 h3 => if x4 = 0 then (if a2 = 0 then (some (some (.int a3), h3)) else (bn_ev 121 4 [some (.ref a0), some (.int a1), some (.int (a2 + (-1))), some (.int (a3 + 1))] [] h3)) else (bn_ev 121 4 [some (.ref a0), some (.int a1), some (.int a2), some (.int (a3 + 1))] [] h3))))))) := by
  refine Eq.trans (be_iload_n bd_121_4 rfl) ?_
  refine Eq.trans (be_aload_n bd_121_5 rfl) ?_
  refine Eq.trans (be_virtI (as := []) (rr := [.int a3]) (en := [some (.ref a0), none, none]) bd_121_6 bm_3_195 rfl rfl rfl ⟨Nat.le_of_ble_eq_true rfl, Nat.le_of_ble_eq_true rfl, Nat.le_of_ble_eq_true rfl, Nat.le_of_ble_eq_true rfl⟩ (Or.inl rfl)) ?_
  refine bn_gd_c (bn_cI_c fun x2 h1 => ?_)
  refine Eq.trans (be_icmp_ge (t := 39) bd_121_9 rfl) ?_
  refine bn_if_c ?_ ?_
  · refine Eq.trans (be_bipush (v := (-9)) bd_121_39 (by decide)) ?_
    exact be_ireturn bd_121_41 rfl
  · refine Eq.trans (be_iload_n bd_121_12 rfl) ?_
    refine Eq.trans (be_if_lt (t := 39) bd_121_13 rfl) ?_
    refine bn_if_c ?_ ?_
    · refine Eq.trans (be_bipush (v := (-9)) bd_121_39 (by decide)) ?_
      exact be_ireturn bd_121_41 rfl
    · refine Eq.trans (be_aload_n bd_121_16 rfl) ?_
      refine Eq.trans (be_iload_n bd_121_17 rfl) ?_
      refine Eq.trans (be_virtI (as := [.int a3]) (rr := []) (en := [some (.ref a0), some (.int a3), none, none]) bd_121_18 bm_3_198 rfl rfl rfl ⟨Nat.le_of_ble_eq_true rfl, Nat.le_of_ble_eq_true rfl, Nat.le_of_ble_eq_true rfl, Nat.le_of_ble_eq_true rfl⟩ (Or.inr rfl)) ?_
      refine bn_gd_c (bn_cI_c fun x4 h3 => ?_)
      refine Eq.trans (be_if_ne (t := 33) bd_121_21 rfl) ?_
      refine bn_if_c ?_ ?_
      · refine Eq.trans (be_iload_n bd_121_24 rfl) ?_
        refine Eq.trans (be_if_ne (t := 30) bd_121_25 rfl) ?_
        refine bn_if_c ?_ ?_
        · refine Eq.trans (be_iload_n bd_121_28 rfl) ?_
          exact be_ireturn bd_121_29 rfl
        · refine Eq.trans (be_iinc (v := (-1)) (ls' := [some (.ref a0), some (.int a1), some (.int (a2 + (-1))), some (.int a3)]) bd_121_30 rfl (by decide) (Nat.le_of_ble_eq_true rfl) rfl) ?_
          refine Eq.trans (be_iinc (v := 1) (ls' := [some (.ref a0), some (.int a1), some (.int (a2 + (-1))), some (.int (a3 + 1))]) bd_121_33 rfl (by decide) (Nat.le_of_ble_eq_true rfl) rfl) ?_
          refine Eq.trans (be_goto (t := 4) bd_121_36 rfl) ?_
          rfl
      · refine Eq.trans (be_iinc (v := 1) (ls' := [some (.ref a0), some (.int a1), some (.int a2), some (.int (a3 + 1))]) bd_121_33 rfl (by decide) (Nat.le_of_ble_eq_true rfl) rfl) ?_
        refine Eq.trans (be_goto (t := 4) bd_121_36 rfl) ?_
        rfl
theorem bs_X3_common_0 (a0 : Int32) (a1 : Int32) (h : bn_H) : bn_ev 122 0 [some (.int a0), some (.int a1), none, none, none] [] h = bn_ev 122 4 [some (.int a0), some (.int a1), some (.int a0), some (.int a1), none] [] h := by
  refine Eq.trans (be_iload_n bd_122_0 rfl) ?_
  refine Eq.trans (be_istore_n (ls' := [some (.int a0), some (.int a1), some (.int a0), none, none]) bd_122_1 (Nat.le_of_ble_eq_true rfl) rfl) ?_
  refine Eq.trans (be_iload_n bd_122_2 rfl) ?_
  refine Eq.trans (be_istore_n (ls' := [some (.int a0), some (.int a1), some (.int a0), some (.int a1), none]) bd_122_3 (Nat.le_of_ble_eq_true rfl) rfl) ?_
  rfl
theorem bs_X3_common_4 (a0 : Int32) (a1 : Int32) (a2 : Int32) (a3 : Int32) (o4 : Option Value) (h : bn_H) : bn_ev 122 4 [some (.int a0), some (.int a1), some (.int a2), some (.int a3), o4] [] h = if a3 = 0 then (some (some (.int a2), h)) else (if a3 = 0 then none else (bn_ev 122 4 [some (.int a0), some (.int a1), some (.int a3), some (.int (bn_rem a2 a3)), some (.int (bn_rem a2 a3))] [] h)) := by
  refine Eq.trans (be_iload_n bd_122_4 rfl) ?_
  refine Eq.trans (be_if_eq (t := 21) bd_122_5 rfl) ?_
  refine bn_if_c ?_ ?_
  · refine Eq.trans (be_iload_n bd_122_21 rfl) ?_
    exact be_ireturn bd_122_22 rfl
  · refine Eq.trans (be_iload_n bd_122_8 rfl) ?_
    refine Eq.trans (be_iload_n bd_122_9 rfl) ?_
    refine Eq.trans (be_irem bd_122_10) ?_
    refine bn_if_c rfl ?_
    refine Eq.trans (be_istore (ls' := [some (.int a0), some (.int a1), some (.int a2), some (.int a3), some (.int (bn_rem a2 a3))]) bd_122_11 (Nat.le_of_ble_eq_true rfl) rfl) ?_
    refine Eq.trans (be_iload_n bd_122_13 rfl) ?_
    refine Eq.trans (be_istore_n (ls' := [some (.int a0), some (.int a1), some (.int a3), some (.int a3), some (.int (bn_rem a2 a3))]) bd_122_14 (Nat.le_of_ble_eq_true rfl) rfl) ?_
    refine Eq.trans (be_iload bd_122_15 rfl) ?_
    refine Eq.trans (be_istore_n (ls' := [some (.int a0), some (.int a1), some (.int a3), some (.int (bn_rem a2 a3)), some (.int (bn_rem a2 a3))]) bd_122_17 (Nat.le_of_ble_eq_true rfl) rfl) ?_
    refine Eq.trans (be_goto (t := 4) bd_122_18 rfl) ?_
    rfl
theorem bs_X3_forged_0 (a0 : Nat) (a1 : Int32) (a2 : Int32) (a3 : Int32) (a4 : Int32) (h : bn_H) : bn_ev 123 0 [some (.ref a0), some (.int a1), some (.int a2), some (.int a3), some (.int a4), none, none] [] h = bn_cI (bn_ev 77 0 [some (.long a1.toInt64), none, some (.long 1), none, some (.long 99), none] [] h) (fun x2 h1 => if x2 = 0 then (some (some (.int (-2)), h1)) else (bn_cI (bn_ev 77 0 [some (.long a2.toInt64), none, some (.long 1), none, some (.long 99), none] [] h1) (fun x4 h3 => if x4 = 0 then (some (some (.int (-2)), h3)) else (bn_cI (bn_ev 77 0 [some (.long a3.toInt64), none, some (.long 0), none, some (.long 10), none] [] h3) (fun x6 h5 => if x6 = 0 then (some (some (.int (-2)), h5)) else (bn_ev 123 45 [some (.ref a0), some (.int a1), some (.int a2), some (.int a3), some (.int a4), some (.int 0), some (.int 1)] [] h5)))))) := by
  refine Eq.trans (be_iload_n bd_123_0 rfl) ?_
  refine Eq.trans (be_i2l bd_123_1) ?_
  refine Eq.trans (be_lconst (v := 1) bd_123_2 (by decide)) ?_
  refine Eq.trans (be_ldc2w (v := 99) bd_123_3 rfl) ?_
  refine Eq.trans (be_statI (as := [.long 99, .long 1, .long a1.toInt64]) (rr := []) (en := [some (.long a1.toInt64), none, some (.long 1), none, some (.long 99), none]) bd_123_6 bm_3_57 rfl rfl rfl ⟨Nat.le_of_ble_eq_true rfl, Nat.le_of_ble_eq_true rfl, Nat.le_of_ble_eq_true rfl, Nat.le_of_ble_eq_true rfl⟩ (Or.inr rfl)) ?_
  refine bn_cI_c fun x2 h1 => ?_
  refine Eq.trans (be_if_eq (t := 36) bd_123_9 rfl) ?_
  refine bn_if_c ?_ ?_
  · refine Eq.trans (be_bipush (v := (-2)) bd_123_36 (by decide)) ?_
    exact be_ireturn bd_123_38 rfl
  · refine Eq.trans (be_iload_n bd_123_12 rfl) ?_
    refine Eq.trans (be_i2l bd_123_13) ?_
    refine Eq.trans (be_lconst (v := 1) bd_123_14 (by decide)) ?_
    refine Eq.trans (be_ldc2w (v := 99) bd_123_15 rfl) ?_
    refine Eq.trans (be_statI (as := [.long 99, .long 1, .long a2.toInt64]) (rr := []) (en := [some (.long a2.toInt64), none, some (.long 1), none, some (.long 99), none]) bd_123_18 bm_3_57 rfl rfl rfl ⟨Nat.le_of_ble_eq_true rfl, Nat.le_of_ble_eq_true rfl, Nat.le_of_ble_eq_true rfl, Nat.le_of_ble_eq_true rfl⟩ (Or.inr rfl)) ?_
    refine bn_cI_c fun x4 h3 => ?_
    refine Eq.trans (be_if_eq (t := 36) bd_123_21 rfl) ?_
    refine bn_if_c ?_ ?_
    · refine Eq.trans (be_bipush (v := (-2)) bd_123_36 (by decide)) ?_
      exact be_ireturn bd_123_38 rfl
    · refine Eq.trans (be_iload_n bd_123_24 rfl) ?_
      refine Eq.trans (be_i2l bd_123_25) ?_
      refine Eq.trans (be_lconst (v := 0) bd_123_26 (by decide)) ?_
      refine Eq.trans (be_ldc2w (v := 10) bd_123_27 rfl) ?_
      refine Eq.trans (be_statI (as := [.long 10, .long 0, .long a3.toInt64]) (rr := []) (en := [some (.long a3.toInt64), none, some (.long 0), none, some (.long 10), none]) bd_123_30 bm_3_57 rfl rfl rfl ⟨Nat.le_of_ble_eq_true rfl, Nat.le_of_ble_eq_true rfl, Nat.le_of_ble_eq_true rfl, Nat.le_of_ble_eq_true rfl⟩ (Or.inr rfl)) ?_
      refine bn_cI_c fun x6 h5 => ?_
      refine Eq.trans (be_if_ne (t := 39) bd_123_33 rfl) ?_
      refine bn_if_c ?_ ?_
      · refine Eq.trans (be_bipush (v := (-2)) bd_123_36 (by decide)) ?_
        exact be_ireturn bd_123_38 rfl
      · refine Eq.trans (be_iconst (v := 0) bd_123_39 (by decide)) ?_
        refine Eq.trans (be_istore (ls' := [some (.ref a0), some (.int a1), some (.int a2), some (.int a3), some (.int a4), some (.int 0), none]) bd_123_40 (Nat.le_of_ble_eq_true rfl) rfl) ?_
        refine Eq.trans (be_iconst (v := 1) bd_123_42 (by decide)) ?_
        refine Eq.trans (be_istore (ls' := [some (.ref a0), some (.int a1), some (.int a2), some (.int a3), some (.int a4), some (.int 0), some (.int 1)]) bd_123_43 (Nat.le_of_ble_eq_true rfl) rfl) ?_
        rfl
theorem bs_X3_forged_45 (a0 : Nat) (a1 : Int32) (a2 : Int32) (a3 : Int32) (a4 : Int32) (a5 : Int32) (a6 : Int32) (h : bn_H) : bn_ev 123 45 [some (.ref a0), some (.int a1), some (.int a2), some (.int a3), some (.int a4), some (.int a5), some (.int a6)] [] h = if a2 < a6 then (if a1 ≤ a2 then (bn_cI (bn_ev 100 0 [some (.int a1)] [] h) (fun x2 h1 => bn_ev 123 114 [some (.ref a0), some (.int a1), some (.int a2), some (.int a3), some (.int a4), some (.int a5), some (.int a6)] [.int (if x2 = a1 then 10 else 10 - a3), .int a5] h1)) else (bn_ev 123 114 [some (.ref a0), some (.int a1), some (.int a2), some (.int a3), some (.int a4), some (.int a5), some (.int a6)] [.int 0, .int a5] h)) else (bn_cI (bn_ev 100 0 [some (.int a6)] [] h) (fun x4 h3 => if x4 = a6 then (bn_ev 123 45 [some (.ref a0), some (.int a1), some (.int a2), some (.int a3), some (.int a4), some (.int (a5 + 0)), some (.int (a6 + 1))] [] h3) else (bn_cI (bn_ev 100 0 [some (.int a6)] [] h3) (fun x6 h5 => if x6 = a1 then (bn_ev 123 45 [some (.ref a0), some (.int a1), some (.int a2), some (.int a3), some (.int a4), some (.int (a5 + a3)), some (.int (a6 + 1))] [] h5) else (bn_ev 123 45 [some (.ref a0), some (.int a1), some (.int a2), some (.int a3), some (.int a4), some (.int (a5 + 0)), some (.int (a6 + 1))] [] h5))))) := by
  refine Eq.trans (be_iload bd_123_45 rfl) ?_
  refine Eq.trans (be_iload_n bd_123_47 rfl) ?_
  refine Eq.trans (be_icmp_gt (t := 86) bd_123_48 rfl) ?_
  refine bn_if_c ?_ ?_
  · refine Eq.trans (be_iload bd_123_86 rfl) ?_
    refine Eq.trans (be_iload_n bd_123_88 rfl) ?_
    refine Eq.trans (be_iload_n bd_123_89 rfl) ?_
    refine Eq.trans (be_icmp_le (t := 97) bd_123_90 rfl) ?_
    refine bn_if_c ?_ ?_
    · refine Eq.trans (be_iload_n bd_123_97 rfl) ?_
      refine Eq.trans (be_statI (as := [.int a1]) (rr := [.int a5]) (en := [some (.int a1)]) bd_123_98 bm_3_152 rfl rfl rfl ⟨Nat.le_of_ble_eq_true rfl, Nat.le_of_ble_eq_true rfl, Nat.le_of_ble_eq_true rfl, Nat.le_of_ble_eq_true rfl⟩ (Or.inl rfl)) ?_
      refine bn_cI_c fun x2 h1 => ?_
      refine Eq.trans (be_iload_n bd_123_101 rfl) ?_
      refine Eq.trans (be_icmp_eq (t := 112) bd_123_102 rfl) ?_
      refine Eq.trans (bn_dia (J := 114) (a := 10) (b := 10 - a3) (by
      refine Eq.trans (be_bipush (v := 10) bd_123_112 (by decide)) ?_
      rfl) (by
      refine Eq.trans (be_bipush (v := 10) bd_123_105 (by decide)) ?_
      refine Eq.trans (be_iload_n bd_123_107 rfl) ?_
      refine Eq.trans (be_isub bd_123_108) ?_
      refine Eq.trans (be_goto (t := 114) bd_123_109 rfl) ?_
      rfl)) ?_
      rfl
    · refine Eq.trans (be_iconst (v := 0) bd_123_93 (by decide)) ?_
      refine Eq.trans (be_goto (t := 114) bd_123_94 rfl) ?_
      rfl
  · refine Eq.trans (be_iload bd_123_51 rfl) ?_
    refine Eq.trans (be_iload bd_123_53 rfl) ?_
    refine Eq.trans (be_statI (as := [.int a6]) (rr := [.int a5]) (en := [some (.int a6)]) bd_123_55 bm_3_152 rfl rfl rfl ⟨Nat.le_of_ble_eq_true rfl, Nat.le_of_ble_eq_true rfl, Nat.le_of_ble_eq_true rfl, Nat.le_of_ble_eq_true rfl⟩ (Or.inl rfl)) ?_
    refine bn_cI_c fun x4 h3 => ?_
    refine Eq.trans (be_iload bd_123_58 rfl) ?_
    refine Eq.trans (be_icmp_eq (t := 76) bd_123_60 rfl) ?_
    refine bn_if_c ?_ ?_
    · refine Eq.trans (be_iconst (v := 0) bd_123_76 (by decide)) ?_
      refine Eq.trans (be_iadd bd_123_77) ?_
      refine Eq.trans (be_istore (ls' := [some (.ref a0), some (.int a1), some (.int a2), some (.int a3), some (.int a4), some (.int (a5 + 0)), some (.int a6)]) bd_123_78 (Nat.le_of_ble_eq_true rfl) rfl) ?_
      refine Eq.trans (be_iinc (v := 1) (ls' := [some (.ref a0), some (.int a1), some (.int a2), some (.int a3), some (.int a4), some (.int (a5 + 0)), some (.int (a6 + 1))]) bd_123_80 rfl (by decide) (Nat.le_of_ble_eq_true rfl) rfl) ?_
      refine Eq.trans (be_goto (t := 45) bd_123_83 rfl) ?_
      rfl
    · refine Eq.trans (be_iload bd_123_63 rfl) ?_
      refine Eq.trans (be_statI (as := [.int a6]) (rr := [.int a5]) (en := [some (.int a6)]) bd_123_65 bm_3_152 rfl rfl rfl ⟨Nat.le_of_ble_eq_true rfl, Nat.le_of_ble_eq_true rfl, Nat.le_of_ble_eq_true rfl, Nat.le_of_ble_eq_true rfl⟩ (Or.inl rfl)) ?_
      refine bn_cI_c fun x6 h5 => ?_
      refine Eq.trans (be_iload_n bd_123_68 rfl) ?_
      refine Eq.trans (be_icmp_ne (t := 76) bd_123_69 rfl) ?_
      refine bn_if_c ?_ ?_
      · refine Eq.trans (be_iload_n bd_123_72 rfl) ?_
        refine Eq.trans (be_goto (t := 77) bd_123_73 rfl) ?_
        refine Eq.trans (be_iadd bd_123_77) ?_
        refine Eq.trans (be_istore (ls' := [some (.ref a0), some (.int a1), some (.int a2), some (.int a3), some (.int a4), some (.int (a5 + a3)), some (.int a6)]) bd_123_78 (Nat.le_of_ble_eq_true rfl) rfl) ?_
        refine Eq.trans (be_iinc (v := 1) (ls' := [some (.ref a0), some (.int a1), some (.int a2), some (.int a3), some (.int a4), some (.int (a5 + a3)), some (.int (a6 + 1))]) bd_123_80 rfl (by decide) (Nat.le_of_ble_eq_true rfl) rfl) ?_
        refine Eq.trans (be_goto (t := 45) bd_123_83 rfl) ?_
        rfl
      · refine Eq.trans (be_iconst (v := 0) bd_123_76 (by decide)) ?_
        refine Eq.trans (be_iadd bd_123_77) ?_
        refine Eq.trans (be_istore (ls' := [some (.ref a0), some (.int a1), some (.int a2), some (.int a3), some (.int a4), some (.int (a5 + 0)), some (.int a6)]) bd_123_78 (Nat.le_of_ble_eq_true rfl) rfl) ?_
        refine Eq.trans (be_iinc (v := 1) (ls' := [some (.ref a0), some (.int a1), some (.int a2), some (.int a3), some (.int a4), some (.int (a5 + 0)), some (.int (a6 + 1))]) bd_123_80 rfl (by decide) (Nat.le_of_ble_eq_true rfl) rfl) ?_
        refine Eq.trans (be_goto (t := 45) bd_123_83 rfl) ?_
        rfl
theorem bs_X3_forged_114 (a0 : Nat) (a1 : Int32) (a2 : Int32) (a3 : Int32) (a4 : Int32) (a5 : Int32) (a6 : Int32) (s0 : Int32) (s1 : Int32) (h : bn_H) : bn_ev 123 114 [some (.ref a0), some (.int a1), some (.int a2), some (.int a3), some (.int a4), some (.int a5), some (.int a6)] [.int s0, .int s1] h = if (s1 + s0) = 0 then (some (some (.int (-3)), h)) else (if a4 = 0 then (bn_cI (bn_ev 122 0 [some (.int a5), some (.int (s1 + s0)), none, none, none] [] h) (fun x2 h1 => if x2 = 0 then none else (some (some (.int ((s1 + s0) / x2)), h1)))) else (bn_cI (bn_ev 122 0 [some (.int a5), some (.int (s1 + s0)), none, none, none] [] h) (fun x4 h3 => if x4 = 0 then none else (some (some (.int (a5 / x4)), h3))))) := by
  refine Eq.trans (be_iadd bd_123_114) ?_
  refine Eq.trans (be_istore (ls' := [some (.ref a0), some (.int a1), some (.int a2), some (.int a3), some (.int a4), some (.int a5), some (.int (s1 + s0))]) bd_123_115 (Nat.le_of_ble_eq_true rfl) rfl) ?_
  refine Eq.trans (be_iload bd_123_117 rfl) ?_
  refine Eq.trans (be_if_ne (t := 125) bd_123_119 rfl) ?_
  refine bn_if_c ?_ ?_
  · refine Eq.trans (be_bipush (v := (-3)) bd_123_122 (by decide)) ?_
    exact be_ireturn bd_123_124 rfl
  · refine Eq.trans (be_iload bd_123_125 rfl) ?_
    refine Eq.trans (be_if_eq (t := 143) bd_123_127 rfl) ?_
    refine bn_if_c ?_ ?_
    · refine Eq.trans (be_iload bd_123_143 rfl) ?_
      refine Eq.trans (be_iload bd_123_145 rfl) ?_
      refine Eq.trans (be_iload bd_123_147 rfl) ?_
      refine Eq.trans (be_statI (as := [.int (s1 + s0), .int a5]) (rr := [.int (s1 + s0)]) (en := [some (.int a5), some (.int (s1 + s0)), none, none, none]) bd_123_149 bm_3_205 rfl rfl rfl ⟨Nat.le_of_ble_eq_true rfl, Nat.le_of_ble_eq_true rfl, Nat.le_of_ble_eq_true rfl, Nat.le_of_ble_eq_true rfl⟩ (Or.inl rfl)) ?_
      refine bn_cI_c fun x2 h1 => ?_
      refine Eq.trans (be_idiv bd_123_152) ?_
      refine bn_if_c rfl ?_
      exact be_ireturn bd_123_153 rfl
    · refine Eq.trans (be_iload bd_123_130 rfl) ?_
      refine Eq.trans (be_iload bd_123_132 rfl) ?_
      refine Eq.trans (be_iload bd_123_134 rfl) ?_
      refine Eq.trans (be_statI (as := [.int (s1 + s0), .int a5]) (rr := [.int a5]) (en := [some (.int a5), some (.int (s1 + s0)), none, none, none]) bd_123_136 bm_3_205 rfl rfl rfl ⟨Nat.le_of_ble_eq_true rfl, Nat.le_of_ble_eq_true rfl, Nat.le_of_ble_eq_true rfl, Nat.le_of_ble_eq_true rfl⟩ (Or.inl rfl)) ?_
      refine bn_cI_c fun x4 h3 => ?_
      refine Eq.trans (be_idiv bd_123_139) ?_
      refine bn_if_c rfl ?_
      refine Eq.trans (be_goto (t := 153) bd_123_140 rfl) ?_
      exact be_ireturn bd_123_153 rfl
theorem bs_X3_power_0 (a0 : Int32) (a1 : Int32) (h : bn_H) : bn_ev 124 0 [some (.int a0), some (.int a1), none, none, none] [] h = bn_ev 124 5 [some (.int a0), some (.int a1), some (.long 1), none, some (.int 0)] [] h := by
  refine Eq.trans (be_lconst (v := 1) bd_124_0 (by decide)) ?_
  refine Eq.trans (be_lstore_n (ls' := [some (.int a0), some (.int a1), some (.long 1), none, none]) bd_124_1 (Nat.le_of_ble_eq_true rfl) rfl) ?_
  refine Eq.trans (be_iconst (v := 0) bd_124_2 (by decide)) ?_
  refine Eq.trans (be_istore (ls' := [some (.int a0), some (.int a1), some (.long 1), none, some (.int 0)]) bd_124_3 (Nat.le_of_ble_eq_true rfl) rfl) ?_
  rfl
theorem bs_X3_power_5 (a0 : Int32) (a1 : Int32) (a2 : Int64) (a4 : Int32) (h : bn_H) : bn_ev 124 5 [some (.int a0), some (.int a1), some (.long a2), none, some (.int a4)] [] h = if a1 ≤ a4 then (some (some (.long a2), h)) else (bn_ev 124 5 [some (.int a0), some (.int a1), some (.long (a2 * a0.toInt64)), none, some (.int (a4 + 1))] [] h) := by
  refine Eq.trans (be_iload bd_124_5 rfl) ?_
  refine Eq.trans (be_iload_n bd_124_7 rfl) ?_
  refine Eq.trans (be_icmp_ge (t := 22) bd_124_8 rfl) ?_
  refine bn_if_c ?_ ?_
  · refine Eq.trans (be_lload_n bd_124_22 rfl) ?_
    exact be_lreturn bd_124_23 rfl
  · refine Eq.trans (be_lload_n bd_124_11 rfl) ?_
    refine Eq.trans (be_iload_n bd_124_12 rfl) ?_
    refine Eq.trans (be_i2l bd_124_13) ?_
    refine Eq.trans (be_lmul bd_124_14) ?_
    refine Eq.trans (be_lstore_n (ls' := [some (.int a0), some (.int a1), some (.long (a2 * a0.toInt64)), none, some (.int a4)]) bd_124_15 (Nat.le_of_ble_eq_true rfl) rfl) ?_
    refine Eq.trans (be_iinc (v := 1) (ls' := [some (.int a0), some (.int a1), some (.long (a2 * a0.toInt64)), none, some (.int (a4 + 1))]) bd_124_16 rfl (by decide) (Nat.le_of_ble_eq_true rfl) rfl) ?_
    refine Eq.trans (be_goto (t := 5) bd_124_19 rfl) ?_
    rfl
theorem bs_X3_help_0 (a0 : Nat) (a1 : Int32) (a2 : Int32) (h : bn_H) : bn_ev 125 0 [some (.ref a0), some (.int a1), some (.int a2), none, none, none, none, none, none, none, none, none, none, none, none] [] h = bn_cI (bn_ev 77 0 [some (.long a1.toInt64), none, some (.long 0), none, some (.long 10), none] [] h) (fun x2 h1 => if x2 = 0 then (some (some (.long (-2)), h1)) else (bn_gd (bn_isC h1 a0 3) (bn_cI (bn_ev 111 0 [some (.ref a0), none, none, none, none] [] h1) (fun x4 h3 => if x4 = 0 then (some (some (.long (-3)), h3)) else (if x4 = (-9) then (bn_ev 125 41 [some (.ref a0), some (.int a1), some (.int a2), some (.int x4), none, none, none, none, none, none, none, none, none, none, none] [] h3) else (if x4 ≤ 18 then (bn_cJ (bn_ev 124 0 [some (.int 10), some (.int (x4 - 1)), none, none, none] [] h3) (fun y6 h5 => bn_cJ (bn_ev 124 0 [some (.int (10 - a1)), some (.int (x4 - 1)), none, none, none] [] h5) (fun y8 h7 => bn_ev 125 82 [some (.ref a0), some (.int a1), some (.int a2), some (.int x4), some (.int (x4 - 1)), some (.long y6), none, some (.long (y6 - y8)), none, some (.long (y6 - y8)), none, some (.long y6), none, none, none] [] h7))) else (bn_ev 125 41 [some (.ref a0), some (.int a1), some (.int a2), some (.int x4), none, none, none, none, none, none, none, none, none, none, none] [] h3))))))) := by
  refine Eq.trans (be_iload_n bd_125_0 rfl) ?_
  refine Eq.trans (be_i2l bd_125_1) ?_
  refine Eq.trans (be_lconst (v := 0) bd_125_2 (by decide)) ?_
  refine Eq.trans (be_ldc2w (v := 10) bd_125_3 rfl) ?_
  refine Eq.trans (be_statI (as := [.long 10, .long 0, .long a1.toInt64]) (rr := []) (en := [some (.long a1.toInt64), none, some (.long 0), none, some (.long 10), none]) bd_125_6 bm_3_57 rfl rfl rfl ⟨Nat.le_of_ble_eq_true rfl, Nat.le_of_ble_eq_true rfl, Nat.le_of_ble_eq_true rfl, Nat.le_of_ble_eq_true rfl⟩ (Or.inr rfl)) ?_
  refine bn_cI_c fun x2 h1 => ?_
  refine Eq.trans (be_if_ne (t := 16) bd_125_9 rfl) ?_
  refine bn_if_c ?_ ?_
  · refine Eq.trans (be_ldc2w (v := (-2)) bd_125_12 rfl) ?_
    exact be_lreturn bd_125_15 rfl
  · refine Eq.trans (be_aload_n bd_125_16 rfl) ?_
    refine Eq.trans (be_virtI (as := []) (rr := []) (en := [some (.ref a0), none, none, none, none]) bd_125_17 bm_3_178 rfl rfl rfl ⟨Nat.le_of_ble_eq_true rfl, Nat.le_of_ble_eq_true rfl, Nat.le_of_ble_eq_true rfl, Nat.le_of_ble_eq_true rfl⟩ (Or.inl rfl)) ?_
    refine bn_gd_c (bn_cI_c fun x4 h3 => ?_)
    refine Eq.trans (be_istore_n (ls' := [some (.ref a0), some (.int a1), some (.int a2), some (.int x4), none, none, none, none, none, none, none, none, none, none, none]) bd_125_20 (Nat.le_of_ble_eq_true rfl) rfl) ?_
    refine Eq.trans (be_iload_n bd_125_21 rfl) ?_
    refine Eq.trans (be_if_ne (t := 29) bd_125_22 rfl) ?_
    refine bn_if_c ?_ ?_
    · refine Eq.trans (be_ldc2w (v := (-3)) bd_125_25 rfl) ?_
      exact be_lreturn bd_125_28 rfl
    · refine Eq.trans (be_iload_n bd_125_29 rfl) ?_
      refine Eq.trans (be_bipush (v := (-9)) bd_125_30 (by decide)) ?_
      refine Eq.trans (be_icmp_eq (t := 41) bd_125_32 rfl) ?_
      refine bn_if_c ?_ ?_
      · rfl
      · refine Eq.trans (be_iload_n bd_125_35 rfl) ?_
        refine Eq.trans (be_bipush (v := 18) bd_125_36 (by decide)) ?_
        refine Eq.trans (be_icmp_le (t := 46) bd_125_38 rfl) ?_
        refine bn_if_c ?_ ?_
        · refine Eq.trans (be_iload_n bd_125_46 rfl) ?_
          refine Eq.trans (be_iconst (v := 1) bd_125_47 (by decide)) ?_
          refine Eq.trans (be_isub bd_125_48) ?_
          refine Eq.trans (be_istore (ls' := [some (.ref a0), some (.int a1), some (.int a2), some (.int x4), some (.int (x4 - 1)), none, none, none, none, none, none, none, none, none, none]) bd_125_49 (Nat.le_of_ble_eq_true rfl) rfl) ?_
          refine Eq.trans (be_bipush (v := 10) bd_125_51 (by decide)) ?_
          refine Eq.trans (be_iload bd_125_53 rfl) ?_
          refine Eq.trans (be_statJ (as := [.int (x4 - 1), .int 10]) (rr := []) (en := [some (.int 10), some (.int (x4 - 1)), none, none, none]) bd_125_55 bm_3_212 rfl rfl rfl ⟨Nat.le_of_ble_eq_true rfl, Nat.le_of_ble_eq_true rfl, Nat.le_of_ble_eq_true rfl, Nat.le_of_ble_eq_true rfl⟩ rfl) ?_
          refine bn_cJ_c fun y6 h5 => ?_
          refine Eq.trans (be_lstore (ls' := [some (.ref a0), some (.int a1), some (.int a2), some (.int x4), some (.int (x4 - 1)), some (.long y6), none, none, none, none, none, none, none, none, none]) bd_125_58 (Nat.le_of_ble_eq_true rfl) rfl) ?_
          refine Eq.trans (be_lload bd_125_60 rfl) ?_
          refine Eq.trans (be_bipush (v := 10) bd_125_62 (by decide)) ?_
          refine Eq.trans (be_iload_n bd_125_64 rfl) ?_
          refine Eq.trans (be_isub bd_125_65) ?_
          refine Eq.trans (be_iload bd_125_66 rfl) ?_
          refine Eq.trans (be_statJ (as := [.int (x4 - 1), .int (10 - a1)]) (rr := [.long y6]) (en := [some (.int (10 - a1)), some (.int (x4 - 1)), none, none, none]) bd_125_68 bm_3_212 rfl rfl rfl ⟨Nat.le_of_ble_eq_true rfl, Nat.le_of_ble_eq_true rfl, Nat.le_of_ble_eq_true rfl, Nat.le_of_ble_eq_true rfl⟩ rfl) ?_
          refine bn_cJ_c fun y8 h7 => ?_
          refine Eq.trans (be_lsub bd_125_71) ?_
          refine Eq.trans (be_lstore (ls' := [some (.ref a0), some (.int a1), some (.int a2), some (.int x4), some (.int (x4 - 1)), some (.long y6), none, some (.long (y6 - y8)), none, none, none, none, none, none, none]) bd_125_72 (Nat.le_of_ble_eq_true rfl) rfl) ?_
          refine Eq.trans (be_lload bd_125_74 rfl) ?_
          refine Eq.trans (be_lstore (ls' := [some (.ref a0), some (.int a1), some (.int a2), some (.int x4), some (.int (x4 - 1)), some (.long y6), none, some (.long (y6 - y8)), none, some (.long (y6 - y8)), none, none, none, none, none]) bd_125_76 (Nat.le_of_ble_eq_true rfl) rfl) ?_
          refine Eq.trans (be_lload bd_125_78 rfl) ?_
          refine Eq.trans (be_lstore (ls' := [some (.ref a0), some (.int a1), some (.int a2), some (.int x4), some (.int (x4 - 1)), some (.long y6), none, some (.long (y6 - y8)), none, some (.long (y6 - y8)), none, some (.long y6), none, none, none]) bd_125_80 (Nat.le_of_ble_eq_true rfl) rfl) ?_
          rfl
        · rfl
theorem bs_X3_help_41 (a0 : Nat) (a1 : Int32) (a2 : Int32) (a3 : Int32) (o4 : Option Value) (o5 : Option Value) (o6 : Option Value) (o7 : Option Value) (o8 : Option Value) (o9 : Option Value) (o10 : Option Value) (o11 : Option Value) (o12 : Option Value) (o13 : Option Value) (o14 : Option Value) (h : bn_H) : bn_ev 125 41 [some (.ref a0), some (.int a1), some (.int a2), some (.int a3), o4, o5, o6, o7, o8, o9, o10, o11, o12, o13, o14] [] h = bn_cJ (bn_ev 124 0 [some (.int 10), some (.int 18), none, none, none] [] h) (fun y2 h1 => bn_cJ (bn_ev 124 0 [some (.int (10 - a1)), some (.int 18), none, none, none] [] h1) (fun y4 h3 => bn_ev 125 82 [some (.ref a0), some (.int a1), some (.int a2), some (.int a3), some (.int 18), some (.long y2), none, some (.long (y2 - y4)), none, some (.long (y2 - y4)), none, some (.long y2), none, o13, o14] [] h3)) := by
  refine Eq.trans (be_bipush (v := 18) bd_125_41 (by decide)) ?_
  refine Eq.trans (be_goto (t := 49) bd_125_43 rfl) ?_
  refine Eq.trans (be_istore (ls' := [some (.ref a0), some (.int a1), some (.int a2), some (.int a3), some (.int 18), o5, o6, o7, o8, o9, o10, o11, o12, o13, o14]) bd_125_49 (Nat.le_of_ble_eq_true rfl) rfl) ?_
  refine Eq.trans (be_bipush (v := 10) bd_125_51 (by decide)) ?_
  refine Eq.trans (be_iload bd_125_53 rfl) ?_
  refine Eq.trans (be_statJ (as := [.int 18, .int 10]) (rr := []) (en := [some (.int 10), some (.int 18), none, none, none]) bd_125_55 bm_3_212 rfl rfl rfl ⟨Nat.le_of_ble_eq_true rfl, Nat.le_of_ble_eq_true rfl, Nat.le_of_ble_eq_true rfl, Nat.le_of_ble_eq_true rfl⟩ rfl) ?_
  refine bn_cJ_c fun y2 h1 => ?_
  refine Eq.trans (be_lstore (ls' := [some (.ref a0), some (.int a1), some (.int a2), some (.int a3), some (.int 18), some (.long y2), none, o7, o8, o9, o10, o11, o12, o13, o14]) bd_125_58 (Nat.le_of_ble_eq_true rfl) rfl) ?_
  refine Eq.trans (be_lload bd_125_60 rfl) ?_
  refine Eq.trans (be_bipush (v := 10) bd_125_62 (by decide)) ?_
  refine Eq.trans (be_iload_n bd_125_64 rfl) ?_
  refine Eq.trans (be_isub bd_125_65) ?_
  refine Eq.trans (be_iload bd_125_66 rfl) ?_
  refine Eq.trans (be_statJ (as := [.int 18, .int (10 - a1)]) (rr := [.long y2]) (en := [some (.int (10 - a1)), some (.int 18), none, none, none]) bd_125_68 bm_3_212 rfl rfl rfl ⟨Nat.le_of_ble_eq_true rfl, Nat.le_of_ble_eq_true rfl, Nat.le_of_ble_eq_true rfl, Nat.le_of_ble_eq_true rfl⟩ rfl) ?_
  refine bn_cJ_c fun y4 h3 => ?_
  refine Eq.trans (be_lsub bd_125_71) ?_
  refine Eq.trans (be_lstore (ls' := [some (.ref a0), some (.int a1), some (.int a2), some (.int a3), some (.int 18), some (.long y2), none, some (.long (y2 - y4)), none, o9, o10, o11, o12, o13, o14]) bd_125_72 (Nat.le_of_ble_eq_true rfl) rfl) ?_
  refine Eq.trans (be_lload bd_125_74 rfl) ?_
  refine Eq.trans (be_lstore (ls' := [some (.ref a0), some (.int a1), some (.int a2), some (.int a3), some (.int 18), some (.long y2), none, some (.long (y2 - y4)), none, some (.long (y2 - y4)), none, o11, o12, o13, o14]) bd_125_76 (Nat.le_of_ble_eq_true rfl) rfl) ?_
  refine Eq.trans (be_lload bd_125_78 rfl) ?_
  refine Eq.trans (be_lstore (ls' := [some (.ref a0), some (.int a1), some (.int a2), some (.int a3), some (.int 18), some (.long y2), none, some (.long (y2 - y4)), none, some (.long (y2 - y4)), none, some (.long y2), none, o13, o14]) bd_125_80 (Nat.le_of_ble_eq_true rfl) rfl) ?_
  rfl
theorem bs_X3_help_82 (a0 : Nat) (a1 : Int32) (a2 : Int32) (a3 : Int32) (a4 : Int32) (a5 : Int64) (a7 : Int64) (a9 : Int64) (a11 : Int64) (o13 : Option Value) (o14 : Option Value) (h : bn_H) : bn_ev 125 82 [some (.ref a0), some (.int a1), some (.int a2), some (.int a3), some (.int a4), some (.long a5), none, some (.long a7), none, some (.long a9), none, some (.long a11), none, o13, o14] [] h = if (lg_cmp a11 0) = 0 then (if a2 = 0 then (if a9 = 0 then none else (some (some (.long (a5 / a9)), h))) else (if a9 = 0 then none else (some (some (.long (a7 / a9)), h)))) else (if a11 = 0 then none else (bn_ev 125 82 [some (.ref a0), some (.int a1), some (.int a2), some (.int a3), some (.int a4), some (.long a5), none, some (.long a7), none, some (.long a11), none, some (.long (bn_lrem a9 a11)), none, some (.long (bn_lrem a9 a11)), none] [] h)) := by
  refine Eq.trans (be_lload bd_125_82 rfl) ?_
  refine Eq.trans (be_lconst (v := 0) bd_125_84 (by decide)) ?_
  refine Eq.trans (be_lcmp bd_125_85) ?_
  refine Eq.trans (be_if_eq (t := 107) bd_125_86 rfl) ?_
  refine bn_if_c ?_ ?_
  · refine Eq.trans (be_iload_n bd_125_107 rfl) ?_
    refine Eq.trans (be_if_eq (t := 119) bd_125_108 rfl) ?_
    refine bn_if_c ?_ ?_
    · refine Eq.trans (be_lload bd_125_119 rfl) ?_
      refine Eq.trans (be_lload bd_125_121 rfl) ?_
      refine Eq.trans (be_ldiv bd_125_123) ?_
      refine bn_if_c rfl ?_
      exact be_lreturn bd_125_124 rfl
    · refine Eq.trans (be_lload bd_125_111 rfl) ?_
      refine Eq.trans (be_lload bd_125_113 rfl) ?_
      refine Eq.trans (be_ldiv bd_125_115) ?_
      refine bn_if_c rfl ?_
      refine Eq.trans (be_goto (t := 124) bd_125_116 rfl) ?_
      exact be_lreturn bd_125_124 rfl
  · refine Eq.trans (be_lload bd_125_89 rfl) ?_
    refine Eq.trans (be_lload bd_125_91 rfl) ?_
    refine Eq.trans (be_lrem bd_125_93) ?_
    refine bn_if_c rfl ?_
    refine Eq.trans (be_lstore (ls' := [some (.ref a0), some (.int a1), some (.int a2), some (.int a3), some (.int a4), some (.long a5), none, some (.long a7), none, some (.long a9), none, some (.long a11), none, some (.long (bn_lrem a9 a11)), none]) bd_125_94 (Nat.le_of_ble_eq_true rfl) rfl) ?_
    refine Eq.trans (be_lload bd_125_96 rfl) ?_
    refine Eq.trans (be_lstore (ls' := [some (.ref a0), some (.int a1), some (.int a2), some (.int a3), some (.int a4), some (.long a5), none, some (.long a7), none, some (.long a11), none, some (.long a11), none, some (.long (bn_lrem a9 a11)), none]) bd_125_98 (Nat.le_of_ble_eq_true rfl) rfl) ?_
    refine Eq.trans (be_lload bd_125_100 rfl) ?_
    refine Eq.trans (be_lstore (ls' := [some (.ref a0), some (.int a1), some (.int a2), some (.int a3), some (.int a4), some (.long a5), none, some (.long a7), none, some (.long a11), none, some (.long (bn_lrem a9 a11)), none, some (.long (bn_lrem a9 a11)), none]) bd_125_102 (Nat.le_of_ble_eq_true rfl) rfl) ?_
    refine Eq.trans (be_goto (t := 82) bd_125_104 rfl) ?_
    rfl
theorem bs_X3_keep_0 (a0 : Nat) (a1 : Int32) (h : bn_H) : bn_ev 126 0 [some (.ref a0), some (.int a1), none] [] h = bn_cI (bn_ev 77 0 [some (.long a1.toInt64), none, some (.long 0), none, some (.long 1), none] [] h) (fun x2 h1 => if x2 = 0 then (some (some (.int (-1)), h1)) else (bn_gR h1 a0 3 26 (fun p3 => (bn_sd h1 p3 1 a1 (vp_nar .boolean 1)).bind (fun h4 => bn_ev 126 21 [some (.ref a0), some (.int a1), some (.int 0)] [] h4)))) := by
  refine Eq.trans (be_iload_n bd_126_0 rfl) ?_
  refine Eq.trans (be_i2l bd_126_1) ?_
  refine Eq.trans (be_lconst (v := 0) bd_126_2 (by decide)) ?_
  refine Eq.trans (be_lconst (v := 1) bd_126_3 (by decide)) ?_
  refine Eq.trans (be_statI (as := [.long 1, .long 0, .long a1.toInt64]) (rr := []) (en := [some (.long a1.toInt64), none, some (.long 0), none, some (.long 1), none]) bd_126_4 bm_3_57 rfl rfl rfl ⟨Nat.le_of_ble_eq_true rfl, Nat.le_of_ble_eq_true rfl, Nat.le_of_ble_eq_true rfl, Nat.le_of_ble_eq_true rfl⟩ (Or.inr rfl)) ?_
  refine bn_cI_c fun x2 h1 => ?_
  refine Eq.trans (be_if_ne (t := 12) bd_126_7 rfl) ?_
  refine bn_if_c ?_ ?_
  · refine Eq.trans (be_iconst (v := (-1)) bd_126_10 (by decide)) ?_
    exact be_ireturn bd_126_11 rfl
  · refine Eq.trans (be_aload_n bd_126_12 rfl) ?_
    refine Eq.trans (be_getR bd_126_13 bf_3_39 rfl (Or.inl ⟨_, rfl⟩)) ?_
    refine bn_gR_c fun p3 => ?_
    refine Eq.trans (be_iload_n bd_126_16 rfl) ?_
    refine Eq.trans (be_iconst (v := 1) bd_126_17 (by decide)) ?_
    refine Eq.trans (be_bastore bd_126_18) ?_
    refine bn_bd_c fun h4 => ?_
    refine Eq.trans (be_iconst (v := 0) bd_126_19 (by decide)) ?_
    refine Eq.trans (be_istore_n (ls' := [some (.ref a0), some (.int a1), some (.int 0)]) bd_126_20 (Nat.le_of_ble_eq_true rfl) rfl) ?_
    rfl
theorem bs_X3_keep_21 (a0 : Nat) (a1 : Int32) (a2 : Int32) (h : bn_H) : bn_ev 126 21 [some (.ref a0), some (.int a1), some (.int a2)] [] h = if 71 ≤ a2 then (bn_gR h a0 3 28 (fun p1 => bn_gJ h a0 3 12 (fun y2 => (bn_lsd h p1 a1 y2).bind (fun h3 => bn_gR h3 a0 3 6 (fun p4 => (bn_ld h3 p4 0 70).bind (fun x5 => some (some (.int x5), h3))))))) else (bn_gR h a0 3 27 (fun p6 => bn_gR h a0 3 6 (fun p7 => (bn_ld h p7 0 a2).bind (fun x8 => (bn_sd h p6 0 ((72 * a1) + a2) x8).bind (fun h9 => bn_ev 126 21 [some (.ref a0), some (.int a1), some (.int (a2 + 1))] [] h9))))) := by
  refine Eq.trans (be_iload_n bd_126_21 rfl) ?_
  refine Eq.trans (be_bipush (v := 71) bd_126_22 (by decide)) ?_
  refine Eq.trans (be_icmp_ge (t := 50) bd_126_24 rfl) ?_
  refine bn_if_c ?_ ?_
  · refine Eq.trans (be_aload_n bd_126_50 rfl) ?_
    refine Eq.trans (be_getR bd_126_51 bf_3_45 rfl (Or.inl ⟨_, rfl⟩)) ?_
    refine bn_gR_c fun p1 => ?_
    refine Eq.trans (be_iload_n bd_126_54 rfl) ?_
    refine Eq.trans (be_aload_n bd_126_55 rfl) ?_
    refine Eq.trans (be_getJ bd_126_56 bf_3_134 rfl) ?_
    refine bn_gJ_c fun y2 => ?_
    refine Eq.trans (be_lastore bd_126_59) ?_
    refine bn_bd_c fun h3 => ?_
    refine Eq.trans (be_aload_n bd_126_60 rfl) ?_
    refine Eq.trans (be_getR bd_126_61 bf_3_13 rfl (Or.inl ⟨_, rfl⟩)) ?_
    refine bn_gR_c fun p4 => ?_
    refine Eq.trans (be_bipush (v := 70) bd_126_64 (by decide)) ?_
    refine Eq.trans (be_iaload bd_126_66) ?_
    refine bn_bd_c fun x5 => ?_
    exact be_ireturn bd_126_67 rfl
  · refine Eq.trans (be_aload_n bd_126_27 rfl) ?_
    refine Eq.trans (be_getR bd_126_28 bf_3_42 rfl (Or.inl ⟨_, rfl⟩)) ?_
    refine bn_gR_c fun p6 => ?_
    refine Eq.trans (be_bipush (v := 72) bd_126_31 (by decide)) ?_
    refine Eq.trans (be_iload_n bd_126_33 rfl) ?_
    refine Eq.trans (be_imul bd_126_34) ?_
    refine Eq.trans (be_iload_n bd_126_35 rfl) ?_
    refine Eq.trans (be_iadd bd_126_36) ?_
    refine Eq.trans (be_aload_n bd_126_37 rfl) ?_
    refine Eq.trans (be_getR bd_126_38 bf_3_13 rfl (Or.inl ⟨_, rfl⟩)) ?_
    refine bn_gR_c fun p7 => ?_
    refine Eq.trans (be_iload_n bd_126_41 rfl) ?_
    refine Eq.trans (be_iaload bd_126_42) ?_
    refine bn_bd_c fun x8 => ?_
    refine Eq.trans (be_iastore bd_126_43) ?_
    refine bn_bd_c fun h9 => ?_
    refine Eq.trans (be_iinc (v := 1) (ls' := [some (.ref a0), some (.int a1), some (.int (a2 + 1))]) bd_126_44 rfl (by decide) (Nat.le_of_ble_eq_true rfl) rfl) ?_
    refine Eq.trans (be_goto (t := 21) bd_126_47 rfl) ?_
    rfl
theorem bs_X3_again_0 (a0 : Nat) (a1 : Int32) (h : bn_H) : bn_ev 127 0 [some (.ref a0), some (.int a1), none] [] h = bn_cI (bn_ev 77 0 [some (.long a1.toInt64), none, some (.long 0), none, some (.long 1), none] [] h) (fun x2 h1 => if x2 = 0 then (some (some (.int (-1)), h1)) else (bn_gR h1 a0 3 26 (fun p3 => (bn_ld h1 p3 1 a1).bind (fun x4 => if x4 = 0 then (some (some (.int (-3)), h1)) else (bn_ev 127 26 [some (.ref a0), some (.int a1), some (.int 0)] [] h1))))) := by
  refine Eq.trans (be_iload_n bd_127_0 rfl) ?_
  refine Eq.trans (be_i2l bd_127_1) ?_
  refine Eq.trans (be_lconst (v := 0) bd_127_2 (by decide)) ?_
  refine Eq.trans (be_lconst (v := 1) bd_127_3 (by decide)) ?_
  refine Eq.trans (be_statI (as := [.long 1, .long 0, .long a1.toInt64]) (rr := []) (en := [some (.long a1.toInt64), none, some (.long 0), none, some (.long 1), none]) bd_127_4 bm_3_57 rfl rfl rfl ⟨Nat.le_of_ble_eq_true rfl, Nat.le_of_ble_eq_true rfl, Nat.le_of_ble_eq_true rfl, Nat.le_of_ble_eq_true rfl⟩ (Or.inr rfl)) ?_
  refine bn_cI_c fun x2 h1 => ?_
  refine Eq.trans (be_if_ne (t := 12) bd_127_7 rfl) ?_
  refine bn_if_c ?_ ?_
  · refine Eq.trans (be_iconst (v := (-1)) bd_127_10 (by decide)) ?_
    exact be_ireturn bd_127_11 rfl
  · refine Eq.trans (be_aload_n bd_127_12 rfl) ?_
    refine Eq.trans (be_getR bd_127_13 bf_3_39 rfl (Or.inl ⟨_, rfl⟩)) ?_
    refine bn_gR_c fun p3 => ?_
    refine Eq.trans (be_iload_n bd_127_16 rfl) ?_
    refine Eq.trans (be_baload bd_127_17) ?_
    refine bn_bd_c fun x4 => ?_
    refine Eq.trans (be_if_ne (t := 24) bd_127_18 rfl) ?_
    refine bn_if_c ?_ ?_
    · refine Eq.trans (be_bipush (v := (-3)) bd_127_21 (by decide)) ?_
      exact be_ireturn bd_127_23 rfl
    · refine Eq.trans (be_iconst (v := 0) bd_127_24 (by decide)) ?_
      refine Eq.trans (be_istore_n (ls' := [some (.ref a0), some (.int a1), some (.int 0)]) bd_127_25 (Nat.le_of_ble_eq_true rfl) rfl) ?_
      rfl
theorem bs_X3_again_26 (a0 : Nat) (a1 : Int32) (a2 : Int32) (h : bn_H) : bn_ev 127 26 [some (.ref a0), some (.int a1), some (.int a2)] [] h = if 71 ≤ a2 then (bn_gR h a0 3 28 (fun p1 => (bn_lld h p1 a1).bind (fun y2 => (bn_pf h a0 3 12 (.long y2)).bind (fun h3 => (bn_pf h3 a0 3 17 (.int 0)).bind (fun h4 => bn_gR h4 a0 3 6 (fun p5 => (bn_ld h4 p5 0 70).bind (fun x6 => some (some (.int x6), h4)))))))) else (bn_gR h a0 3 6 (fun p7 => bn_gR h a0 3 27 (fun p8 => (bn_ld h p8 0 ((72 * a1) + a2)).bind (fun x9 => (bn_sd h p7 0 a2 x9).bind (fun h10 => bn_ev 127 26 [some (.ref a0), some (.int a1), some (.int (a2 + 1))] [] h10))))) := by
  refine Eq.trans (be_iload_n bd_127_26 rfl) ?_
  refine Eq.trans (be_bipush (v := 71) bd_127_27 (by decide)) ?_
  refine Eq.trans (be_icmp_ge (t := 55) bd_127_29 rfl) ?_
  refine bn_if_c ?_ ?_
  · refine Eq.trans (be_aload_n bd_127_55 rfl) ?_
    refine Eq.trans (be_aload_n bd_127_56 rfl) ?_
    refine Eq.trans (be_getR bd_127_57 bf_3_45 rfl (Or.inl ⟨_, rfl⟩)) ?_
    refine bn_gR_c fun p1 => ?_
    refine Eq.trans (be_iload_n bd_127_60 rfl) ?_
    refine Eq.trans (be_laload bd_127_61) ?_
    refine bn_bd_c fun y2 => ?_
    refine Eq.trans (be_putJ bd_127_62 bf_3_134 rfl rfl) ?_
    refine bn_bd_c fun h3 => ?_
    refine Eq.trans (be_aload_n bd_127_65 rfl) ?_
    refine Eq.trans (be_iconst (v := 0) bd_127_66 (by decide)) ?_
    refine Eq.trans (be_putI bd_127_67 bf_3_112 rfl rfl) ?_
    refine bn_bd_c fun h4 => ?_
    refine Eq.trans (be_aload_n bd_127_70 rfl) ?_
    refine Eq.trans (be_getR bd_127_71 bf_3_13 rfl (Or.inl ⟨_, rfl⟩)) ?_
    refine bn_gR_c fun p5 => ?_
    refine Eq.trans (be_bipush (v := 70) bd_127_74 (by decide)) ?_
    refine Eq.trans (be_iaload bd_127_76) ?_
    refine bn_bd_c fun x6 => ?_
    exact be_ireturn bd_127_77 rfl
  · refine Eq.trans (be_aload_n bd_127_32 rfl) ?_
    refine Eq.trans (be_getR bd_127_33 bf_3_13 rfl (Or.inl ⟨_, rfl⟩)) ?_
    refine bn_gR_c fun p7 => ?_
    refine Eq.trans (be_iload_n bd_127_36 rfl) ?_
    refine Eq.trans (be_aload_n bd_127_37 rfl) ?_
    refine Eq.trans (be_getR bd_127_38 bf_3_42 rfl (Or.inl ⟨_, rfl⟩)) ?_
    refine bn_gR_c fun p8 => ?_
    refine Eq.trans (be_bipush (v := 72) bd_127_41 (by decide)) ?_
    refine Eq.trans (be_iload_n bd_127_43 rfl) ?_
    refine Eq.trans (be_imul bd_127_44) ?_
    refine Eq.trans (be_iload_n bd_127_45 rfl) ?_
    refine Eq.trans (be_iadd bd_127_46) ?_
    refine Eq.trans (be_iaload bd_127_47) ?_
    refine bn_bd_c fun x9 => ?_
    refine Eq.trans (be_iastore bd_127_48) ?_
    refine bn_bd_c fun h10 => ?_
    refine Eq.trans (be_iinc (v := 1) (ls' := [some (.ref a0), some (.int a1), some (.int (a2 + 1))]) bd_127_49 rfl (by decide) (Nat.le_of_ble_eq_true rfl) rfl) ?_
    refine Eq.trans (be_goto (t := 26) bd_127_52 rfl) ?_
    rfl
theorem bs_X3_count_0 (a0 : Nat) (a1 : Int32) (h : bn_H) : bn_ev 128 0 [some (.ref a0), some (.int a1), none, none, none, none] [] h = bn_ev 128 10 [some (.ref a0), some (.int a1), some (.int 0), some (.int 0), some (.int 0), some (.int 0)] [] h := by
  refine Eq.trans (be_iconst (v := 0) bd_128_0 (by decide)) ?_
  refine Eq.trans (be_istore_n (ls' := [some (.ref a0), some (.int a1), some (.int 0), none, none, none]) bd_128_1 (Nat.le_of_ble_eq_true rfl) rfl) ?_
  refine Eq.trans (be_iconst (v := 0) bd_128_2 (by decide)) ?_
  refine Eq.trans (be_istore_n (ls' := [some (.ref a0), some (.int a1), some (.int 0), some (.int 0), none, none]) bd_128_3 (Nat.le_of_ble_eq_true rfl) rfl) ?_
  refine Eq.trans (be_iconst (v := 0) bd_128_4 (by decide)) ?_
  refine Eq.trans (be_istore (ls' := [some (.ref a0), some (.int a1), some (.int 0), some (.int 0), some (.int 0), none]) bd_128_5 (Nat.le_of_ble_eq_true rfl) rfl) ?_
  refine Eq.trans (be_iconst (v := 0) bd_128_7 (by decide)) ?_
  refine Eq.trans (be_istore (ls' := [some (.ref a0), some (.int a1), some (.int 0), some (.int 0), some (.int 0), some (.int 0)]) bd_128_8 (Nat.le_of_ble_eq_true rfl) rfl) ?_
  rfl
theorem bs_X3_count_10 (a0 : Nat) (a1 : Int32) (a2 : Int32) (a3 : Int32) (a4 : Int32) (a5 : Int32) (h : bn_H) : bn_ev 128 10 [some (.ref a0), some (.int a1), some (.int a2), some (.int a3), some (.int a4), some (.int a5)] [] h = bn_gI h a0 3 11 (fun x1 => if x1 ≤ a5 then (bn_ev 128 75 [some (.ref a0), some (.int a1), some (.int a2), some (.int a3), some (.int a4), some (.int 1)] [] h) else (bn_gd (bn_isC h a0 3) (bn_cI (bn_ev 89 0 [some (.ref a0), some (.int a5)] [] h) (fun x3 h2 => bn_gd (bn_isC h2 a0 3) (bn_cI (bn_ev 89 0 [some (.ref a0), some (.int a5)] [] h2) (fun x5 h4 => if x5 = 20 then (bn_ev 128 10 [some (.ref a0), some (.int a1), some (.int (a2 + (if x3 = 20 then 1 else 0))), some (.int (a3 + 0)), some (.int a4), some (.int (a5 + 1))] [] h4) else (bn_gd (bn_isC h4 a0 3) (bn_cI (bn_ev 90 0 [some (.ref a0), some (.int a5)] [] h4) (fun x7 h6 => if x7 = 0 then (bn_ev 128 10 [some (.ref a0), some (.int a1), some (.int (a2 + (if x3 = 20 then 1 else 0))), some (.int (a3 + 0)), some (.int a4), some (.int (a5 + 1))] [] h6) else (bn_ev 128 10 [some (.ref a0), some (.int a1), some (.int (a2 + (if x3 = 20 then 1 else 0))), some (.int (a3 + 1)), some (.int a4), some (.int (a5 + 1))] [] h6)))))))))) := by
  refine Eq.trans (be_iload bd_128_10 rfl) ?_
  refine Eq.trans (be_aload_n bd_128_12 rfl) ?_
  refine Eq.trans (be_getI bd_128_13 bf_3_109 rfl) ?_
  refine bn_gI_c fun x1 => ?_
  refine Eq.trans (be_icmp_ge (t := 72) bd_128_16 rfl) ?_
  refine bn_if_c ?_ ?_
  · refine Eq.trans (be_iconst (v := 1) bd_128_72 (by decide)) ?_
    refine Eq.trans (be_istore (ls' := [some (.ref a0), some (.int a1), some (.int a2), some (.int a3), some (.int a4), some (.int 1)]) bd_128_73 (Nat.le_of_ble_eq_true rfl) rfl) ?_
    rfl
  · refine Eq.trans (be_iload_n bd_128_19 rfl) ?_
    refine Eq.trans (be_aload_n bd_128_20 rfl) ?_
    refine Eq.trans (be_iload bd_128_21 rfl) ?_
    refine Eq.trans (be_virtI (as := [.int a5]) (rr := [.int a2]) (en := [some (.ref a0), some (.int a5)]) bd_128_23 bm_3_115 rfl rfl rfl ⟨Nat.le_of_ble_eq_true rfl, Nat.le_of_ble_eq_true rfl, Nat.le_of_ble_eq_true rfl, Nat.le_of_ble_eq_true rfl⟩ (Or.inl rfl)) ?_
    refine bn_gd_c (bn_cI_c fun x3 h2 => ?_)
    refine Eq.trans (be_bipush (v := 20) bd_128_26 (by decide)) ?_
    refine Eq.trans (be_icmp_ne (t := 35) bd_128_28 rfl) ?_
    refine Eq.trans (bn_dia (J := 36) (a := 1) (b := 0) (by
      refine Eq.trans (be_iconst (v := 1) bd_128_31 (by decide)) ?_
      refine Eq.trans (be_goto (t := 36) bd_128_32 rfl) ?_
      rfl) (by
      refine Eq.trans (be_iconst (v := 0) bd_128_35 (by decide)) ?_
      rfl)) ?_
    refine Eq.trans (be_iadd bd_128_36) ?_
    refine Eq.trans (be_istore_n (ls' := [some (.ref a0), some (.int a1), some (.int (a2 + (if x3 = 20 then 1 else 0))), some (.int a3), some (.int a4), some (.int a5)]) bd_128_37 (Nat.le_of_ble_eq_true rfl) rfl) ?_
    refine Eq.trans (be_iload_n bd_128_38 rfl) ?_
    refine Eq.trans (be_aload_n bd_128_39 rfl) ?_
    refine Eq.trans (be_iload bd_128_40 rfl) ?_
    refine Eq.trans (be_virtI (as := [.int a5]) (rr := [.int a3]) (en := [some (.ref a0), some (.int a5)]) bd_128_42 bm_3_115 rfl rfl rfl ⟨Nat.le_of_ble_eq_true rfl, Nat.le_of_ble_eq_true rfl, Nat.le_of_ble_eq_true rfl, Nat.le_of_ble_eq_true rfl⟩ (Or.inl rfl)) ?_
    refine bn_gd_c (bn_cI_c fun x5 h4 => ?_)
    refine Eq.trans (be_bipush (v := 20) bd_128_45 (by decide)) ?_
    refine Eq.trans (be_icmp_eq (t := 63) bd_128_47 rfl) ?_
    refine bn_if_c ?_ ?_
    · refine Eq.trans (be_iconst (v := 0) bd_128_63 (by decide)) ?_
      refine Eq.trans (be_iadd bd_128_64) ?_
      refine Eq.trans (be_istore_n (ls' := [some (.ref a0), some (.int a1), some (.int (a2 + (if x3 = 20 then 1 else 0))), some (.int (a3 + 0)), some (.int a4), some (.int a5)]) bd_128_65 (Nat.le_of_ble_eq_true rfl) rfl) ?_
      refine Eq.trans (be_iinc (v := 1) (ls' := [some (.ref a0), some (.int a1), some (.int (a2 + (if x3 = 20 then 1 else 0))), some (.int (a3 + 0)), some (.int a4), some (.int (a5 + 1))]) bd_128_66 rfl (by decide) (Nat.le_of_ble_eq_true rfl) rfl) ?_
      refine Eq.trans (be_goto (t := 10) bd_128_69 rfl) ?_
      rfl
    · refine Eq.trans (be_aload_n bd_128_50 rfl) ?_
      refine Eq.trans (be_iload bd_128_51 rfl) ?_
      refine Eq.trans (be_virtI (as := [.int a5]) (rr := [.int a3]) (en := [some (.ref a0), some (.int a5)]) bd_128_53 bm_3_128 rfl rfl rfl ⟨Nat.le_of_ble_eq_true rfl, Nat.le_of_ble_eq_true rfl, Nat.le_of_ble_eq_true rfl, Nat.le_of_ble_eq_true rfl⟩ (Or.inr rfl)) ?_
      refine bn_gd_c (bn_cI_c fun x7 h6 => ?_)
      refine Eq.trans (be_if_eq (t := 63) bd_128_56 rfl) ?_
      refine bn_if_c ?_ ?_
      · refine Eq.trans (be_iconst (v := 0) bd_128_63 (by decide)) ?_
        refine Eq.trans (be_iadd bd_128_64) ?_
        refine Eq.trans (be_istore_n (ls' := [some (.ref a0), some (.int a1), some (.int (a2 + (if x3 = 20 then 1 else 0))), some (.int (a3 + 0)), some (.int a4), some (.int a5)]) bd_128_65 (Nat.le_of_ble_eq_true rfl) rfl) ?_
        refine Eq.trans (be_iinc (v := 1) (ls' := [some (.ref a0), some (.int a1), some (.int (a2 + (if x3 = 20 then 1 else 0))), some (.int (a3 + 0)), some (.int a4), some (.int (a5 + 1))]) bd_128_66 rfl (by decide) (Nat.le_of_ble_eq_true rfl) rfl) ?_
        refine Eq.trans (be_goto (t := 10) bd_128_69 rfl) ?_
        rfl
      · refine Eq.trans (be_iconst (v := 1) bd_128_59 (by decide)) ?_
        refine Eq.trans (be_goto (t := 64) bd_128_60 rfl) ?_
        refine Eq.trans (be_iadd bd_128_64) ?_
        refine Eq.trans (be_istore_n (ls' := [some (.ref a0), some (.int a1), some (.int (a2 + (if x3 = 20 then 1 else 0))), some (.int (a3 + 1)), some (.int a4), some (.int a5)]) bd_128_65 (Nat.le_of_ble_eq_true rfl) rfl) ?_
        refine Eq.trans (be_iinc (v := 1) (ls' := [some (.ref a0), some (.int a1), some (.int (a2 + (if x3 = 20 then 1 else 0))), some (.int (a3 + 1)), some (.int a4), some (.int (a5 + 1))]) bd_128_66 rfl (by decide) (Nat.le_of_ble_eq_true rfl) rfl) ?_
        refine Eq.trans (be_goto (t := 10) bd_128_69 rfl) ?_
        rfl
theorem bs_X3_count_75 (a0 : Nat) (a1 : Int32) (a2 : Int32) (a3 : Int32) (a4 : Int32) (a5 : Int32) (h : bn_H) : bn_ev 128 75 [some (.ref a0), some (.int a1), some (.int a2), some (.int a3), some (.int a4), some (.int a5)] [] h = bn_gd (bn_isC h a0 3) (bn_cI (bn_ev 119 0 [some (.ref a0), none, none] [] h) (fun x2 h1 => if x2 ≤ a5 then (if a1 = 0 then (bn_gI h1 a0 3 14 (fun x3 => some (some (.int x3), h1))) else (if a1 = 1 then (bn_gI h1 a0 3 10 (fun x4 => some (some (.int x4), h1))) else (if a1 = 2 then (bn_gI h1 a0 3 11 (fun x5 => some (some (.int x5), h1))) else (if a1 = 3 then (bn_gd (bn_isC h1 a0 3) (bn_cI (bn_ev 104 0 [some (.ref a0), none, none] [] h1) (fun x7 h6 => some (some (.int x7), h6)))) else (if a1 = 4 then (bn_gR h1 a0 3 6 (fun p8 => (bn_ld h1 p8 0 70).bind (fun x9 => some (some (.int x9), h1)))) else (if a1 = 5 then (some (some (.int a2), h1)) else (if a1 = 6 then (some (some (.int a3), h1)) else (if a1 = 7 then (bn_gI h1 a0 3 17 (fun x10 => some (some (.int x10), h1))) else (if a1 = 8 then (some (some (.int a4), h1)) else (if a1 = 9 then (bn_gI h1 a0 3 7 (fun x11 => some (some (.int x11), h1))) else (some (some (.int (-2)), h1)))))))))))) else (bn_gd (bn_isC h1 a0 3) (bn_cI (bn_ev 120 0 [some (.ref a0), some (.int a5), none, none] [] h1) (fun x13 h12 => bn_ev 128 75 [some (.ref a0), some (.int a1), some (.int a2), some (.int a3), some (.int (a4 + (if x13 = 0 then 1 else 0))), some (.int (a5 + 1))] [] h12))))) := by
  refine Eq.trans (be_iload bd_128_75 rfl) ?_
  refine Eq.trans (be_aload_n bd_128_77 rfl) ?_
  refine Eq.trans (be_virtI (as := []) (rr := [.int a5]) (en := [some (.ref a0), none, none]) bd_128_78 bm_3_195 rfl rfl rfl ⟨Nat.le_of_ble_eq_true rfl, Nat.le_of_ble_eq_true rfl, Nat.le_of_ble_eq_true rfl, Nat.le_of_ble_eq_true rfl⟩ (Or.inl rfl)) ?_
  refine bn_gd_c (bn_cI_c fun x2 h1 => ?_)
  refine Eq.trans (be_icmp_ge (t := 109) bd_128_81 rfl) ?_
  refine bn_if_c ?_ ?_
  · refine Eq.trans (be_iload_n bd_128_109 rfl) ?_
    refine bn_sw (x := a1) (v := 0) (fun he => ?_) (fun hn0 => ?_)
    · rw [he]
      refine Eq.trans (be_tabin (off := 54) (t := 164) bd_128_110 (by decide) rfl rfl) ?_
      refine Eq.trans (be_aload_n bd_128_164 rfl) ?_
      refine Eq.trans (be_getI bd_128_165 bf_3_61 rfl) ?_
      refine bn_gI_c fun x3 => ?_
      exact be_ireturn bd_128_168 rfl
    refine bn_sw (x := a1) (v := 1) (fun he => ?_) (fun hn1 => ?_)
    · rw [he]
      refine Eq.trans (be_tabin (off := 59) (t := 169) bd_128_110 (by decide) rfl rfl) ?_
      refine Eq.trans (be_aload_n bd_128_169 rfl) ?_
      refine Eq.trans (be_getI bd_128_170 bf_3_106 rfl) ?_
      refine bn_gI_c fun x4 => ?_
      exact be_ireturn bd_128_173 rfl
    refine bn_sw (x := a1) (v := 2) (fun he => ?_) (fun hn2 => ?_)
    · rw [he]
      refine Eq.trans (be_tabin (off := 64) (t := 174) bd_128_110 (by decide) rfl rfl) ?_
      refine Eq.trans (be_aload_n bd_128_174 rfl) ?_
      refine Eq.trans (be_getI bd_128_175 bf_3_109 rfl) ?_
      refine bn_gI_c fun x5 => ?_
      exact be_ireturn bd_128_178 rfl
    refine bn_sw (x := a1) (v := 3) (fun he => ?_) (fun hn3 => ?_)
    · rw [he]
      refine Eq.trans (be_tabin (off := 69) (t := 179) bd_128_110 (by decide) rfl rfl) ?_
      refine Eq.trans (be_aload_n bd_128_179 rfl) ?_
      refine Eq.trans (be_virtI (as := []) (rr := []) (en := [some (.ref a0), none, none]) bd_128_180 bm_3_158 rfl rfl rfl ⟨Nat.le_of_ble_eq_true rfl, Nat.le_of_ble_eq_true rfl, Nat.le_of_ble_eq_true rfl, Nat.le_of_ble_eq_true rfl⟩ (Or.inl rfl)) ?_
      refine bn_gd_c (bn_cI_c fun x7 h6 => ?_)
      exact be_ireturn bd_128_183 rfl
    refine bn_sw (x := a1) (v := 4) (fun he => ?_) (fun hn4 => ?_)
    · rw [he]
      refine Eq.trans (be_tabin (off := 74) (t := 184) bd_128_110 (by decide) rfl rfl) ?_
      refine Eq.trans (be_aload_n bd_128_184 rfl) ?_
      refine Eq.trans (be_getR bd_128_185 bf_3_13 rfl (Or.inl ⟨_, rfl⟩)) ?_
      refine bn_gR_c fun p8 => ?_
      refine Eq.trans (be_bipush (v := 70) bd_128_188 (by decide)) ?_
      refine Eq.trans (be_iaload bd_128_190) ?_
      refine bn_bd_c fun x9 => ?_
      exact be_ireturn bd_128_191 rfl
    refine bn_sw (x := a1) (v := 5) (fun he => ?_) (fun hn5 => ?_)
    · rw [he]
      refine Eq.trans (be_tabin (off := 82) (t := 192) bd_128_110 (by decide) rfl rfl) ?_
      refine Eq.trans (be_iload_n bd_128_192 rfl) ?_
      exact be_ireturn bd_128_193 rfl
    refine bn_sw (x := a1) (v := 6) (fun he => ?_) (fun hn6 => ?_)
    · rw [he]
      refine Eq.trans (be_tabin (off := 84) (t := 194) bd_128_110 (by decide) rfl rfl) ?_
      refine Eq.trans (be_iload_n bd_128_194 rfl) ?_
      exact be_ireturn bd_128_195 rfl
    refine bn_sw (x := a1) (v := 7) (fun he => ?_) (fun hn7 => ?_)
    · rw [he]
      refine Eq.trans (be_tabin (off := 86) (t := 196) bd_128_110 (by decide) rfl rfl) ?_
      refine Eq.trans (be_aload_n bd_128_196 rfl) ?_
      refine Eq.trans (be_getI bd_128_197 bf_3_112 rfl) ?_
      refine bn_gI_c fun x10 => ?_
      exact be_ireturn bd_128_200 rfl
    refine bn_sw (x := a1) (v := 8) (fun he => ?_) (fun hn8 => ?_)
    · rw [he]
      refine Eq.trans (be_tabin (off := 91) (t := 201) bd_128_110 (by decide) rfl rfl) ?_
      refine Eq.trans (be_iload bd_128_201 rfl) ?_
      exact be_ireturn bd_128_203 rfl
    refine bn_sw (x := a1) (v := 9) (fun he => ?_) (fun hn9 => ?_)
    · rw [he]
      refine Eq.trans (be_tabin (off := 94) (t := 204) bd_128_110 (by decide) rfl rfl) ?_
      refine Eq.trans (be_aload_n bd_128_204 rfl) ?_
      refine Eq.trans (be_getI bd_128_205 bf_3_103 rfl) ?_
      refine bn_gI_c fun x11 => ?_
      exact be_ireturn bd_128_208 rfl
    have q0 : (a1).toInt ≠ 0 := fun q => hn0 (Int32.toInt_inj.mp (q.trans (by decide)))
    have q1 : (a1).toInt ≠ 1 := fun q => hn1 (Int32.toInt_inj.mp (q.trans (by decide)))
    have q2 : (a1).toInt ≠ 2 := fun q => hn2 (Int32.toInt_inj.mp (q.trans (by decide)))
    have q3 : (a1).toInt ≠ 3 := fun q => hn3 (Int32.toInt_inj.mp (q.trans (by decide)))
    have q4 : (a1).toInt ≠ 4 := fun q => hn4 (Int32.toInt_inj.mp (q.trans (by decide)))
    have q5 : (a1).toInt ≠ 5 := fun q => hn5 (Int32.toInt_inj.mp (q.trans (by decide)))
    have q6 : (a1).toInt ≠ 6 := fun q => hn6 (Int32.toInt_inj.mp (q.trans (by decide)))
    have q7 : (a1).toInt ≠ 7 := fun q => hn7 (Int32.toInt_inj.mp (q.trans (by decide)))
    have q8 : (a1).toInt ≠ 8 := fun q => hn8 (Int32.toInt_inj.mp (q.trans (by decide)))
    have q9 : (a1).toInt ≠ 9 := fun q => hn9 (Int32.toInt_inj.mp (q.trans (by decide)))
    refine Eq.trans (be_tabout (t := 209) bd_128_110 (by omega) rfl) ?_
    refine Eq.trans (be_bipush (v := (-2)) bd_128_209 (by decide)) ?_
    exact be_ireturn bd_128_211 rfl
  · refine Eq.trans (be_iload bd_128_84 rfl) ?_
    refine Eq.trans (be_aload_n bd_128_86 rfl) ?_
    refine Eq.trans (be_iload bd_128_87 rfl) ?_
    refine Eq.trans (be_virtI (as := [.int a5]) (rr := [.int a4]) (en := [some (.ref a0), some (.int a5), none, none]) bd_128_89 bm_3_198 rfl rfl rfl ⟨Nat.le_of_ble_eq_true rfl, Nat.le_of_ble_eq_true rfl, Nat.le_of_ble_eq_true rfl, Nat.le_of_ble_eq_true rfl⟩ (Or.inr rfl)) ?_
    refine bn_gd_c (bn_cI_c fun x13 h12 => ?_)
    refine Eq.trans (be_if_eq (t := 99) bd_128_92 rfl) ?_
    refine Eq.trans (bn_dia (J := 100) (a := 1) (b := 0) (by
      refine Eq.trans (be_iconst (v := 1) bd_128_99 (by decide)) ?_
      rfl) (by
      refine Eq.trans (be_iconst (v := 0) bd_128_95 (by decide)) ?_
      refine Eq.trans (be_goto (t := 100) bd_128_96 rfl) ?_
      rfl)) ?_
    refine Eq.trans (be_iadd bd_128_100) ?_
    refine Eq.trans (be_istore (ls' := [some (.ref a0), some (.int a1), some (.int a2), some (.int a3), some (.int (a4 + (if x13 = 0 then 1 else 0))), some (.int a5)]) bd_128_101 (Nat.le_of_ble_eq_true rfl) rfl) ?_
    refine Eq.trans (be_iinc (v := 1) (ls' := [some (.ref a0), some (.int a1), some (.int a2), some (.int a3), some (.int (a4 + (if x13 = 0 then 1 else 0))), some (.int (a5 + 1))]) bd_128_103 rfl (by decide) (Nat.le_of_ble_eq_true rfl) rfl) ?_
    refine Eq.trans (be_goto (t := 75) bd_128_106 rfl) ?_
    rfl
