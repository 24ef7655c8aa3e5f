/-! segments: the constructors -/
def bn_ob (ci : Nat) : List Value := (List.range (bn_N ci)).map (fun j => bn_dv (bn_ty ci j))
/-- a new cell -/
def bn_nc (h : bn_H) (e : bn_E) (z : Nat) (K : Nat → bn_H → bn_R) : bn_R := K h.2.1 (bn_n h e z)
theorem bn_nc_c {h : bn_H} {e : bn_E} {z : Nat} {K K' : Nat → bn_H → bn_R} (hk : ∀ p h, K p h = K' p h) : bn_nc h e z K = bn_nc h e z K' := hk _ _
section NEW
variable {mi pc : Nat} {ls : bn_L} {st : List Value} {h : bn_H}
theorem be_newA {k ci : Nat} (hd : decode (bn_b mi) pc = .ok (.new k, 3)) (hm : bn_ck (bn_c mi) k = some ci) : bn_ev mi pc ls st h = bn_nc h (.inr (ci, bn_ob ci)) (bn_N ci) (fun p h' => bn_ev mi (pc + 3) ls (.ref p :: st) h') := be_new hd hm
theorem be_newI {n : Int32} {N : Nat} (hd : decode (bn_b mi) pc = .ok (.newarray .int, 2)) (hN : n.toNatClampNeg = N) (hn : ¬ (n < 0 ∨ 100000 < n.toNatClampNeg)) : bn_ev mi pc ls (.int n :: st) h = bn_nc h (.inl (0, N, .inl (fun _ => 0))) N (fun p h' => bn_ev mi (pc + 2) ls (.ref p :: st) h') := by
  subst hN
  rw [bn_ev_x hd rfl rfl rfl]
  simp only [bn_x]
  rw [if_neg hn]
  rfl
theorem be_newZ {n : Int32} {N : Nat} (hd : decode (bn_b mi) pc = .ok (.newarray .boolean, 2)) (hN : n.toNatClampNeg = N) (hn : ¬ (n < 0 ∨ 100000 < n.toNatClampNeg)) : bn_ev mi pc ls (.int n :: st) h = bn_nc h (.inl (1, N, .inl (fun _ => 0))) N (fun p h' => bn_ev mi (pc + 2) ls (.ref p :: st) h') := by
  subst hN
  rw [bn_ev_x hd rfl rfl rfl]
  simp only [bn_x]
  rw [if_neg hn]
  rfl
theorem be_newJ {n : Int32} {N : Nat} (hd : decode (bn_b mi) pc = .ok (.newarray .long, 2)) (hN : n.toNatClampNeg = N) (hn : ¬ (n < 0 ∨ 100000 < n.toNatClampNeg)) : bn_ev mi pc ls (.int n :: st) h = bn_nc h (.inl (2, N, .inr (.inl (fun _ => 0)))) N (fun p h' => bn_ev mi (pc + 2) ls (.ref p :: st) h') := by
  subst hN
  rw [bn_ev_x hd rfl rfl rfl]
  simp only [bn_x]
  rw [if_neg hn]
  rfl
theorem be_newR {k : Nat} {n : Int32} {N : Nat} (hd : decode (bn_b mi) pc = .ok (.anewarray k, 3)) (hN : n.toNatClampNeg = N) (hn : ¬ (n < 0 ∨ 100000 < n.toNatClampNeg)) (hk : bn_ck (bn_c mi) k = some 0) : bn_ev mi pc ls (.int n :: st) h = bn_nc h (.inl (3, N, .inr (.inr (.inr (.inr (fun _ => none)))))) N (fun p h' => bn_ev mi (pc + 3) ls (.ref p :: st) h') := by
  subst hN
  rw [bn_ev_x hd rfl rfl rfl]
  simp only [bn_x]
  rw [if_neg (fun z => z.elim hn (fun z => z hk))]
  rfl
end NEW
theorem bs_X0_init_0 (a0 : Nat) (h : bn_H) : bn_ev 0 0 [some (.ref a0)] [] h = (bn_pf h a0 0 0 (.int 0)).bind (fun h1 => (bn_pf h1 a0 0 1 (.int 9)).bind (fun h2 => (bn_pf h2 a0 0 2 (.int 9)).bind (fun h3 => (bn_pf h3 a0 0 3 (.int 0)).bind (fun h4 => (bn_pf h4 a0 0 4 (.long 0)).bind (fun h5 => (bn_pf h5 a0 0 5 (.int 0)).bind (fun h6 => bn_nc h6 (.inl (0, 5, .inl (fun _ => 0))) 5 (fun p8 h7 => (bn_pf h7 a0 0 6 (.ref p8)).bind (fun h9 => bn_nc h9 (.inl (1, 5, .inl (fun _ => 0))) 5 (fun p11 h10 => (bn_pf h10 a0 0 7 (.ref p11)).bind (fun h12 => bn_nc h12 (.inl (0, 5, .inl (fun _ => 0))) 5 (fun p14 h13 => (bn_pf h13 a0 0 8 (.ref p14)).bind (fun h15 => (bn_pf h15 a0 0 9 (.int 0)).bind (fun h16 => bn_nc h16 (.inl (0, 10, .inl (fun _ => 0))) 10 (fun p18 h17 => (bn_pf h17 a0 0 10 (.ref p18)).bind (fun h19 => bn_nc h19 (.inl (0, 10, .inl (fun _ => 0))) 10 (fun p21 h20 => (bn_pf h20 a0 0 11 (.ref p21)).bind (fun h22 => bn_nc h22 (.inl (0, 10, .inl (fun _ => 0))) 10 (fun p24 h23 => (bn_pf h23 a0 0 12 (.ref p24)).bind (fun h25 => bn_nc h25 (.inl (0, 10, .inl (fun _ => 0))) 10 (fun p27 h26 => (bn_pf h26 a0 0 13 (.ref p27)).bind (fun h28 => bn_nc h28 (.inl (0, 10, .inl (fun _ => 0))) 10 (fun p30 h29 => (bn_pf h29 a0 0 14 (.ref p30)).bind (fun h31 => some (none, h31)))))))))))))))))))))))) := by
  refine Eq.trans (be_aload_n bd_0_0 rfl) ?_
  refine Eq.trans (be_objinit bd_0_1 bm_0_3 ⟨Nat.le_of_ble_eq_true rfl, Nat.le_of_ble_eq_true rfl, Nat.le_of_ble_eq_true rfl⟩) ?_
  refine Eq.trans (be_aload_n bd_0_4 rfl) ?_
  refine Eq.trans (be_iconst (v := 0) bd_0_5 (by decide)) ?_
  refine Eq.trans (be_putI bd_0_6 bf_0_9 rfl rfl) ?_
  refine bn_bd_c fun h1 => ?_
  refine Eq.trans (be_aload_n bd_0_9 rfl) ?_
  refine Eq.trans (be_bipush (v := 9) bd_0_10 (by decide)) ?_
  refine Eq.trans (be_putI bd_0_12 bf_0_15 rfl rfl) ?_
  refine bn_bd_c fun h2 => ?_
  refine Eq.trans (be_aload_n bd_0_15 rfl) ?_
  refine Eq.trans (be_bipush (v := 9) bd_0_16 (by decide)) ?_
  refine Eq.trans (be_putI bd_0_18 bf_0_18 rfl rfl) ?_
  refine bn_bd_c fun h3 => ?_
  refine Eq.trans (be_aload_n bd_0_21 rfl) ?_
  refine Eq.trans (be_iconst (v := 0) bd_0_22 (by decide)) ?_
  refine Eq.trans (be_putI bd_0_23 bf_0_21 rfl rfl) ?_
  refine bn_bd_c fun h4 => ?_
  refine Eq.trans (be_aload_n bd_0_26 rfl) ?_
  refine Eq.trans (be_lconst (v := 0) bd_0_27 (by decide)) ?_
  refine Eq.trans (be_putJ bd_0_28 bf_0_24 rfl rfl) ?_
  refine bn_bd_c fun h5 => ?_
  refine Eq.trans (be_aload_n bd_0_31 rfl) ?_
  refine Eq.trans (be_iconst (v := 0) bd_0_32 (by decide)) ?_
  refine Eq.trans (be_putI bd_0_33 bf_0_28 rfl rfl) ?_
  refine bn_bd_c fun h6 => ?_
  refine Eq.trans (be_aload_n bd_0_36 rfl) ?_
  refine Eq.trans (be_iconst (v := 5) bd_0_37 (by decide)) ?_
  refine Eq.trans (be_newI (N := 5) bd_0_38 (by decide) (by decide)) ?_
  refine bn_nc_c fun p8 h7 => ?_
  refine Eq.trans (be_putR bd_0_40 bf_0_31 rfl (Or.inl ⟨_, rfl⟩) (Or.inr ⟨rfl, rfl⟩)) ?_
  refine bn_bd_c fun h9 => ?_
  refine Eq.trans (be_aload_n bd_0_43 rfl) ?_
  refine Eq.trans (be_iconst (v := 5) bd_0_44 (by decide)) ?_
  refine Eq.trans (be_newZ (N := 5) bd_0_45 (by decide) (by decide)) ?_
  refine bn_nc_c fun p11 h10 => ?_
  refine Eq.trans (be_putR bd_0_47 bf_0_35 rfl (Or.inl ⟨_, rfl⟩) (Or.inr ⟨rfl, rfl⟩)) ?_
  refine bn_bd_c fun h12 => ?_
  refine Eq.trans (be_aload_n bd_0_50 rfl) ?_
  refine Eq.trans (be_iconst (v := 5) bd_0_51 (by decide)) ?_
  refine Eq.trans (be_newI (N := 5) bd_0_52 (by decide) (by decide)) ?_
  refine bn_nc_c fun p14 h13 => ?_
  refine Eq.trans (be_putR bd_0_54 bf_0_39 rfl (Or.inl ⟨_, rfl⟩) (Or.inr ⟨rfl, rfl⟩)) ?_
  refine bn_bd_c fun h15 => ?_
  refine Eq.trans (be_aload_n bd_0_57 rfl) ?_
  refine Eq.trans (be_iconst (v := 0) bd_0_58 (by decide)) ?_
  refine Eq.trans (be_putI bd_0_59 bf_0_42 rfl rfl) ?_
  refine bn_bd_c fun h16 => ?_
  refine Eq.trans (be_aload_n bd_0_62 rfl) ?_
  refine Eq.trans (be_bipush (v := 10) bd_0_63 (by decide)) ?_
  refine Eq.trans (be_newI (N := 10) bd_0_65 (by decide) (by decide)) ?_
  refine bn_nc_c fun p18 h17 => ?_
  refine Eq.trans (be_putR bd_0_67 bf_0_45 rfl (Or.inl ⟨_, rfl⟩) (Or.inr ⟨rfl, rfl⟩)) ?_
  refine bn_bd_c fun h19 => ?_
  refine Eq.trans (be_aload_n bd_0_70 rfl) ?_
  refine Eq.trans (be_bipush (v := 10) bd_0_71 (by decide)) ?_
  refine Eq.trans (be_newI (N := 10) bd_0_73 (by decide) (by decide)) ?_
  refine bn_nc_c fun p21 h20 => ?_
  refine Eq.trans (be_putR bd_0_75 bf_0_48 rfl (Or.inl ⟨_, rfl⟩) (Or.inr ⟨rfl, rfl⟩)) ?_
  refine bn_bd_c fun h22 => ?_
  refine Eq.trans (be_aload_n bd_0_78 rfl) ?_
  refine Eq.trans (be_bipush (v := 10) bd_0_79 (by decide)) ?_
  refine Eq.trans (be_newI (N := 10) bd_0_81 (by decide) (by decide)) ?_
  refine bn_nc_c fun p24 h23 => ?_
  refine Eq.trans (be_putR bd_0_83 bf_0_51 rfl (Or.inl ⟨_, rfl⟩) (Or.inr ⟨rfl, rfl⟩)) ?_
  refine bn_bd_c fun h25 => ?_
  refine Eq.trans (be_aload_n bd_0_86 rfl) ?_
  refine Eq.trans (be_bipush (v := 10) bd_0_87 (by decide)) ?_
  refine Eq.trans (be_newI (N := 10) bd_0_89 (by decide) (by decide)) ?_
  refine bn_nc_c fun p27 h26 => ?_
  refine Eq.trans (be_putR bd_0_91 bf_0_54 rfl (Or.inl ⟨_, rfl⟩) (Or.inr ⟨rfl, rfl⟩)) ?_
  refine bn_bd_c fun h28 => ?_
  refine Eq.trans (be_aload_n bd_0_94 rfl) ?_
  refine Eq.trans (be_bipush (v := 10) bd_0_95 (by decide)) ?_
  refine Eq.trans (be_newI (N := 10) bd_0_97 (by decide) (by decide)) ?_
  refine bn_nc_c fun p30 h29 => ?_
  refine Eq.trans (be_putR bd_0_99 bf_0_57 rfl (Or.inl ⟨_, rfl⟩) (Or.inr ⟨rfl, rfl⟩)) ?_
  refine bn_bd_c fun h31 => ?_
  exact be_return bd_0_102 rfl
theorem bs_X1_init_0 (a0 : Nat) (h : bn_H) : bn_ev 32 0 [some (.ref a0)] [] h = bn_nc h (.inl (0, 80, .inl (fun _ => 0))) 80 (fun p2 h1 => (bn_pf h1 a0 1 0 (.ref p2)).bind (fun h3 => (bn_pf h3 a0 1 1 (.int 0)).bind (fun h4 => (bn_pf h4 a0 1 2 (.int 0)).bind (fun h5 => some (none, h5))))) := by
  refine Eq.trans (be_aload_n bd_32_0 rfl) ?_
  refine Eq.trans (be_objinit bd_32_1 bm_1_3 ⟨Nat.le_of_ble_eq_true rfl, Nat.le_of_ble_eq_true rfl, Nat.le_of_ble_eq_true rfl⟩) ?_
  refine Eq.trans (be_aload_n bd_32_4 rfl) ?_
  refine Eq.trans (be_bipush (v := 80) bd_32_5 (by decide)) ?_
  refine Eq.trans (be_newI (N := 80) bd_32_7 (by decide) (by decide)) ?_
  refine bn_nc_c fun p2 h1 => ?_
  refine Eq.trans (be_putR bd_32_9 bf_1_9 rfl (Or.inl ⟨_, rfl⟩) (Or.inr ⟨rfl, rfl⟩)) ?_
  refine bn_bd_c fun h3 => ?_
  refine Eq.trans (be_aload_n bd_32_12 rfl) ?_
  refine Eq.trans (be_iconst (v := 0) bd_32_13 (by decide)) ?_
  refine Eq.trans (be_putI bd_32_14 bf_1_15 rfl rfl) ?_
  refine bn_bd_c fun h4 => ?_
  refine Eq.trans (be_aload_n bd_32_17 rfl) ?_
  refine Eq.trans (be_iconst (v := 0) bd_32_18 (by decide)) ?_
  refine Eq.trans (be_putI bd_32_19 bf_1_19 rfl rfl) ?_
  refine bn_bd_c fun h5 => ?_
  exact be_return bd_32_22 rfl
theorem bs_X2_init_0 (a0 : Nat) (h : bn_H) : bn_ev 45 0 [some (.ref a0), none] [] h = bn_nc h (.inr (1, bn_ob 1)) (bn_N 1) (fun p2 h1 => bn_cV (bn_ev 32 0 [some (.ref p2)] [] h1) (fun h3 => (bn_pf h3 a0 2 0 (.ref p2)).bind (fun h5 => bn_nc h5 (.inr (0, bn_ob 0)) (bn_N 0) (fun p7 h6 => bn_cV (bn_ev 0 0 [some (.ref p7)] [] h6) (fun h8 => (bn_pf h8 a0 2 1 (.ref p7)).bind (fun h10 => bn_nc h10 (.inr (0, bn_ob 0)) (bn_N 0) (fun p12 h11 => bn_cV (bn_ev 0 0 [some (.ref p12)] [] h11) (fun h13 => (bn_pf h13 a0 2 2 (.ref p12)).bind (fun h15 => bn_nc h15 (.inl (3, 20, .inr (.inr (.inr (.inr (fun _ => none)))))) 20 (fun p17 h16 => (bn_pf h16 a0 2 3 (.ref p17)).bind (fun h18 => (bn_pf h18 a0 2 4 (.int 0)).bind (fun h19 => (bn_pf h19 a0 2 5 (.int 0)).bind (fun h20 => bn_nc h20 (.inl (3, 2, .inr (.inr (.inr (.inr (fun _ => none)))))) 2 (fun p22 h21 => (bn_pf h21 a0 2 6 (.ref p22)).bind (fun h23 => bn_nc h23 (.inl (1, 2, .inl (fun _ => 0))) 2 (fun p25 h24 => (bn_pf h24 a0 2 7 (.ref p25)).bind (fun h26 => bn_ev 45 73 [some (.ref a0), some (.int 0)] [] h26))))))))))))))))) := by
  refine Eq.trans (be_aload_n bd_45_0 rfl) ?_
  refine Eq.trans (be_objinit bd_45_1 bm_2_3 ⟨Nat.le_of_ble_eq_true rfl, Nat.le_of_ble_eq_true rfl, Nat.le_of_ble_eq_true rfl⟩) ?_
  refine Eq.trans (be_aload_n bd_45_4 rfl) ?_
  refine Eq.trans (be_newA (ci := 1) bd_45_5 (by decide)) ?_
  refine bn_nc_c fun p2 h1 => ?_
  refine Eq.trans (be_dup bd_45_8 rfl) ?_
  refine Eq.trans (be_specV (as := []) (rr := [.ref p2, .ref a0]) (en := [some (.ref p2)]) bd_45_9 bm_2_11 (Or.inr rfl) rfl rfl rfl ⟨Nat.le_of_ble_eq_true rfl, Nat.le_of_ble_eq_true rfl, Nat.le_of_ble_eq_true rfl, Nat.le_of_ble_eq_true rfl⟩ rfl) ?_
  refine bn_cV_c fun h3 => ?_
  refine Eq.trans (be_putR bd_45_12 bf_2_12 rfl (Or.inr ⟨_, rfl⟩) (Or.inr ⟨rfl, rfl⟩)) ?_
  refine bn_bd_c fun h5 => ?_
  refine Eq.trans (be_aload_n bd_45_15 rfl) ?_
  refine Eq.trans (be_newA (ci := 0) bd_45_16 (by decide)) ?_
  refine bn_nc_c fun p7 h6 => ?_
  refine Eq.trans (be_dup bd_45_19 rfl) ?_
  refine Eq.trans (be_specV (as := []) (rr := [.ref p7, .ref a0]) (en := [some (.ref p7)]) bd_45_20 bm_2_18 (Or.inr rfl) rfl rfl rfl ⟨Nat.le_of_ble_eq_true rfl, Nat.le_of_ble_eq_true rfl, Nat.le_of_ble_eq_true rfl, Nat.le_of_ble_eq_true rfl⟩ rfl) ?_
  refine bn_cV_c fun h8 => ?_
  refine Eq.trans (be_putR bd_45_23 bf_2_19 rfl (Or.inr ⟨_, rfl⟩) (Or.inr ⟨rfl, rfl⟩)) ?_
  refine bn_bd_c fun h10 => ?_
  refine Eq.trans (be_aload_n bd_45_26 rfl) ?_
  refine Eq.trans (be_newA (ci := 0) bd_45_27 (by decide)) ?_
  refine bn_nc_c fun p12 h11 => ?_
  refine Eq.trans (be_dup bd_45_30 rfl) ?_
  refine Eq.trans (be_specV (as := []) (rr := [.ref p12, .ref a0]) (en := [some (.ref p12)]) bd_45_31 bm_2_18 (Or.inr rfl) rfl rfl rfl ⟨Nat.le_of_ble_eq_true rfl, Nat.le_of_ble_eq_true rfl, Nat.le_of_ble_eq_true rfl, Nat.le_of_ble_eq_true rfl⟩ rfl) ?_
  refine bn_cV_c fun h13 => ?_
  refine Eq.trans (be_putR bd_45_34 bf_2_23 rfl (Or.inr ⟨_, rfl⟩) (Or.inr ⟨rfl, rfl⟩)) ?_
  refine bn_bd_c fun h15 => ?_
  refine Eq.trans (be_aload_n bd_45_37 rfl) ?_
  refine Eq.trans (be_bipush (v := 20) bd_45_38 (by decide)) ?_
  refine Eq.trans (be_newR (N := 20) bd_45_40 (by decide) (by decide) (by decide)) ?_
  refine bn_nc_c fun p17 h16 => ?_
  refine Eq.trans (be_putR bd_45_43 bf_2_26 rfl (Or.inl ⟨_, rfl⟩) (Or.inr ⟨rfl, rfl⟩)) ?_
  refine bn_bd_c fun h18 => ?_
  refine Eq.trans (be_aload_n bd_45_46 rfl) ?_
  refine Eq.trans (be_iconst (v := 0) bd_45_47 (by decide)) ?_
  refine Eq.trans (be_putI bd_45_48 bf_2_30 rfl rfl) ?_
  refine bn_bd_c fun h19 => ?_
  refine Eq.trans (be_aload_n bd_45_51 rfl) ?_
  refine Eq.trans (be_iconst (v := 0) bd_45_52 (by decide)) ?_
  refine Eq.trans (be_putI bd_45_53 bf_2_34 rfl rfl) ?_
  refine bn_bd_c fun h20 => ?_
  refine Eq.trans (be_aload_n bd_45_56 rfl) ?_
  refine Eq.trans (be_iconst (v := 2) bd_45_57 (by decide)) ?_
  refine Eq.trans (be_newR (N := 2) bd_45_58 (by decide) (by decide) (by decide)) ?_
  refine bn_nc_c fun p22 h21 => ?_
  refine Eq.trans (be_putR bd_45_61 bf_2_37 rfl (Or.inl ⟨_, rfl⟩) (Or.inr ⟨rfl, rfl⟩)) ?_
  refine bn_bd_c fun h23 => ?_
  refine Eq.trans (be_aload_n bd_45_64 rfl) ?_
  refine Eq.trans (be_iconst (v := 2) bd_45_65 (by decide)) ?_
  refine Eq.trans (be_newZ (N := 2) bd_45_66 (by decide) (by decide)) ?_
  refine bn_nc_c fun p25 h24 => ?_
  refine Eq.trans (be_putR bd_45_68 bf_2_40 rfl (Or.inl ⟨_, rfl⟩) (Or.inr ⟨rfl, rfl⟩)) ?_
  refine bn_bd_c fun h26 => ?_
  refine Eq.trans (be_iconst (v := 0) bd_45_71 (by decide)) ?_
  refine Eq.trans (be_istore_n (ls' := [some (.ref a0), some (.int 0)]) bd_45_72 (Nat.le_of_ble_eq_true rfl) rfl) ?_
  rfl
theorem bs_X2_init_73 (a0 : Nat) (a1 : Int32) (h : bn_H) : bn_ev 45 73 [some (.ref a0), some (.int a1)] [] h = if 20 ≤ a1 then (bn_ev 45 100 [some (.ref a0), some (.int 0)] [] h) else (bn_gR h a0 2 3 (fun p1 => bn_nc h (.inr (0, bn_ob 0)) (bn_N 0) (fun p3 h2 => bn_cV (bn_ev 0 0 [some (.ref p3)] [] h2) (fun h4 => (bn_rsd h4 p1 a1 p3).bind (fun h6 => bn_ev 45 73 [some (.ref a0), some (.int (a1 + 1))] [] h6))))) := by
  refine Eq.trans (be_iload_n bd_45_73 rfl) ?_
  refine Eq.trans (be_bipush (v := 20) bd_45_74 (by decide)) ?_
  refine Eq.trans (be_icmp_ge (t := 98) bd_45_76 rfl) ?_
  refine bn_if_c ?_ ?_
  · refine Eq.trans (be_iconst (v := 0) bd_45_98 (by decide)) ?_
    refine Eq.trans (be_istore_n (ls' := [some (.ref a0), some (.int 0)]) bd_45_99 (Nat.le_of_ble_eq_true rfl) rfl) ?_
    rfl
  · refine Eq.trans (be_aload_n bd_45_79 rfl) ?_
    refine Eq.trans (be_getR bd_45_80 bf_2_26 rfl (Or.inl ⟨_, rfl⟩)) ?_
    refine bn_gR_c fun p1 => ?_
    refine Eq.trans (be_iload_n bd_45_83 rfl) ?_
    refine Eq.trans (be_newA (ci := 0) bd_45_84 (by decide)) ?_
    refine bn_nc_c fun p3 h2 => ?_
    refine Eq.trans (be_dup bd_45_87 rfl) ?_
    refine Eq.trans (be_specV (as := []) (rr := [.ref p3, .int a1, .ref p1]) (en := [some (.ref p3)]) bd_45_88 bm_2_18 (Or.inr rfl) rfl rfl rfl ⟨Nat.le_of_ble_eq_true rfl, Nat.le_of_ble_eq_true rfl, Nat.le_of_ble_eq_true rfl, Nat.le_of_ble_eq_true rfl⟩ rfl) ?_
    refine bn_cV_c fun h4 => ?_
    refine Eq.trans (be_aastore bd_45_91) ?_
    refine bn_bd_c fun h6 => ?_
    refine Eq.trans (be_iinc (v := 1) (ls' := [some (.ref a0), some (.int (a1 + 1))]) bd_45_92 rfl (by decide) (Nat.le_of_ble_eq_true rfl) rfl) ?_
    refine Eq.trans (be_goto (t := 73) bd_45_95 rfl) ?_
    rfl
theorem bs_X2_init_100 (a0 : Nat) (a1 : Int32) (h : bn_H) : bn_ev 45 100 [some (.ref a0), some (.int a1)] [] h = if 2 ≤ a1 then (some (none, h)) else (bn_gR h a0 2 6 (fun p1 => bn_nc h (.inr (0, bn_ob 0)) (bn_N 0) (fun p3 h2 => bn_cV (bn_ev 0 0 [some (.ref p3)] [] h2) (fun h4 => (bn_rsd h4 p1 a1 p3).bind (fun h6 => bn_ev 45 100 [some (.ref a0), some (.int (a1 + 1))] [] h6))))) := by
  refine Eq.trans (be_iload_n bd_45_100 rfl) ?_
  refine Eq.trans (be_iconst (v := 2) bd_45_101 (by decide)) ?_
  refine Eq.trans (be_icmp_ge (t := 124) bd_45_102 rfl) ?_
  refine bn_if_c ?_ ?_
  · exact be_return bd_45_124 rfl
  · refine Eq.trans (be_aload_n bd_45_105 rfl) ?_
    refine Eq.trans (be_getR bd_45_106 bf_2_37 rfl (Or.inl ⟨_, rfl⟩)) ?_
    refine bn_gR_c fun p1 => ?_
    refine Eq.trans (be_iload_n bd_45_109 rfl) ?_
    refine Eq.trans (be_newA (ci := 0) bd_45_110 (by decide)) ?_
    refine bn_nc_c fun p3 h2 => ?_
    refine Eq.trans (be_dup bd_45_113 rfl) ?_
    refine Eq.trans (be_specV (as := []) (rr := [.ref p3, .int a1, .ref p1]) (en := [some (.ref p3)]) bd_45_114 bm_2_18 (Or.inr rfl) rfl rfl rfl ⟨Nat.le_of_ble_eq_true rfl, Nat.le_of_ble_eq_true rfl, Nat.le_of_ble_eq_true rfl, Nat.le_of_ble_eq_true rfl⟩ rfl) ?_
    refine bn_cV_c fun h4 => ?_
    refine Eq.trans (be_aastore bd_45_117) ?_
    refine bn_bd_c fun h6 => ?_
    refine Eq.trans (be_iinc (v := 1) (ls' := [some (.ref a0), some (.int (a1 + 1))]) bd_45_118 rfl (by decide) (Nat.le_of_ble_eq_true rfl) rfl) ?_
    refine Eq.trans (be_goto (t := 100) bd_45_121 rfl) ?_
    rfl
theorem bs_X3_init_0 (a0 : Nat) (h : bn_H) : bn_ev 76 0 [some (.ref a0)] [] h = bn_nc h (.inl (0, 71, .inl (fun _ => 0))) 71 (fun p2 h1 => (bn_pf h1 a0 3 0 (.ref p2)).bind (fun h3 => bn_nc h3 (.inl (0, 71, .inl (fun _ => 0))) 71 (fun p5 h4 => (bn_pf h4 a0 3 6 (.ref p5)).bind (fun h6 => bn_nc h6 (.inl (0, 80, .inl (fun _ => 0))) 80 (fun p8 h7 => (bn_pf h7 a0 3 13 (.ref p8)).bind (fun h9 => bn_nc h9 (.inl (0, 1440, .inl (fun _ => 0))) 1440 (fun p11 h10 => (bn_pf h10 a0 3 19 (.ref p11)).bind (fun h12 => bn_nc h12 (.inl (2, 20, .inr (.inl (fun _ => 0)))) 20 (fun p14 h13 => (bn_pf h13 a0 3 20 (.ref p14)).bind (fun h15 => bn_nc h15 (.inl (0, 71, .inl (fun _ => 0))) 71 (fun p17 h16 => (bn_pf h16 a0 3 21 (.ref p17)).bind (fun h18 => bn_nc h18 (.inl (1, 11000, .inl (fun _ => 0))) 11000 (fun p20 h19 => (bn_pf h19 a0 3 23 (.ref p20)).bind (fun h21 => bn_nc h21 (.inl (1, 11000, .inl (fun _ => 0))) 11000 (fun p23 h22 => (bn_pf h22 a0 3 24 (.ref p23)).bind (fun h24 => bn_nc h24 (.inl (0, 10, .inl (fun _ => 0))) 10 (fun p26 h25 => (bn_pf h25 a0 3 25 (.ref p26)).bind (fun h27 => bn_nc h27 (.inl (1, 2, .inl (fun _ => 0))) 2 (fun p29 h28 => (bn_pf h28 a0 3 26 (.ref p29)).bind (fun h30 => bn_nc h30 (.inl (0, 144, .inl (fun _ => 0))) 144 (fun p32 h31 => (bn_pf h31 a0 3 27 (.ref p32)).bind (fun h33 => bn_nc h33 (.inl (2, 2, .inr (.inl (fun _ => 0)))) 2 (fun p35 h34 => (bn_pf h34 a0 3 28 (.ref p35)).bind (fun h36 => (bn_pf h36 a0 3 8 (.int 9)).bind (fun h37 => (bn_pf h37 a0 3 9 (.int 9)).bind (fun h38 => some (none, h38))))))))))))))))))))))))))) := by
  refine Eq.trans (be_aload_n bd_76_0 rfl) ?_
  refine Eq.trans (be_objinit bd_76_1 bm_3_1 ⟨Nat.le_of_ble_eq_true rfl, Nat.le_of_ble_eq_true rfl, Nat.le_of_ble_eq_true rfl⟩) ?_
  refine Eq.trans (be_aload_n bd_76_4 rfl) ?_
  refine Eq.trans (be_bipush (v := 71) bd_76_5 (by decide)) ?_
  refine Eq.trans (be_newI (N := 71) bd_76_7 (by decide) (by decide)) ?_
  refine bn_nc_c fun p2 h1 => ?_
  refine Eq.trans (be_putR bd_76_9 bf_3_7 rfl (Or.inl ⟨_, rfl⟩) (Or.inr ⟨rfl, rfl⟩)) ?_
  refine bn_bd_c fun h3 => ?_
  refine Eq.trans (be_aload_n bd_76_12 rfl) ?_
  refine Eq.trans (be_bipush (v := 71) bd_76_13 (by decide)) ?_
  refine Eq.trans (be_newI (N := 71) bd_76_15 (by decide) (by decide)) ?_
  refine bn_nc_c fun p5 h4 => ?_
  refine Eq.trans (be_putR bd_76_17 bf_3_13 rfl (Or.inl ⟨_, rfl⟩) (Or.inr ⟨rfl, rfl⟩)) ?_
  refine bn_bd_c fun h6 => ?_
  refine Eq.trans (be_aload_n bd_76_20 rfl) ?_
  refine Eq.trans (be_bipush (v := 80) bd_76_21 (by decide)) ?_
  refine Eq.trans (be_newI (N := 80) bd_76_23 (by decide) (by decide)) ?_
  refine bn_nc_c fun p8 h7 => ?_
  refine Eq.trans (be_putR bd_76_25 bf_3_16 rfl (Or.inl ⟨_, rfl⟩) (Or.inr ⟨rfl, rfl⟩)) ?_
  refine bn_bd_c fun h9 => ?_
  refine Eq.trans (be_aload_n bd_76_28 rfl) ?_
  refine Eq.trans (be_sipush (v := 1440) bd_76_29 (by decide)) ?_
  refine Eq.trans (be_newI (N := 1440) bd_76_32 (by decide) (by decide)) ?_
  refine bn_nc_c fun p11 h10 => ?_
  refine Eq.trans (be_putR bd_76_34 bf_3_19 rfl (Or.inl ⟨_, rfl⟩) (Or.inr ⟨rfl, rfl⟩)) ?_
  refine bn_bd_c fun h12 => ?_
  refine Eq.trans (be_aload_n bd_76_37 rfl) ?_
  refine Eq.trans (be_bipush (v := 20) bd_76_38 (by decide)) ?_
  refine Eq.trans (be_newJ (N := 20) bd_76_40 (by decide) (by decide)) ?_
  refine bn_nc_c fun p14 h13 => ?_
  refine Eq.trans (be_putR bd_76_42 bf_3_22 rfl (Or.inl ⟨_, rfl⟩) (Or.inr ⟨rfl, rfl⟩)) ?_
  refine bn_bd_c fun h15 => ?_
  refine Eq.trans (be_aload_n bd_76_45 rfl) ?_
  refine Eq.trans (be_bipush (v := 71) bd_76_46 (by decide)) ?_
  refine Eq.trans (be_newI (N := 71) bd_76_48 (by decide) (by decide)) ?_
  refine bn_nc_c fun p17 h16 => ?_
  refine Eq.trans (be_putR bd_76_50 bf_3_26 rfl (Or.inl ⟨_, rfl⟩) (Or.inr ⟨rfl, rfl⟩)) ?_
  refine bn_bd_c fun h18 => ?_
  refine Eq.trans (be_aload_n bd_76_53 rfl) ?_
  refine Eq.trans (be_sipush (v := 11000) bd_76_54 (by decide)) ?_
  refine Eq.trans (be_newZ (N := 11000) bd_76_57 (by decide) (by decide)) ?_
  refine bn_nc_c fun p20 h19 => ?_
  refine Eq.trans (be_putR bd_76_59 bf_3_29 rfl (Or.inl ⟨_, rfl⟩) (Or.inr ⟨rfl, rfl⟩)) ?_
  refine bn_bd_c fun h21 => ?_
  refine Eq.trans (be_aload_n bd_76_62 rfl) ?_
  refine Eq.trans (be_sipush (v := 11000) bd_76_63 (by decide)) ?_
  refine Eq.trans (be_newZ (N := 11000) bd_76_66 (by decide) (by decide)) ?_
  refine bn_nc_c fun p23 h22 => ?_
  refine Eq.trans (be_putR bd_76_68 bf_3_33 rfl (Or.inl ⟨_, rfl⟩) (Or.inr ⟨rfl, rfl⟩)) ?_
  refine bn_bd_c fun h24 => ?_
  refine Eq.trans (be_aload_n bd_76_71 rfl) ?_
  refine Eq.trans (be_bipush (v := 10) bd_76_72 (by decide)) ?_
  refine Eq.trans (be_newI (N := 10) bd_76_74 (by decide) (by decide)) ?_
  refine bn_nc_c fun p26 h25 => ?_
  refine Eq.trans (be_putR bd_76_76 bf_3_36 rfl (Or.inl ⟨_, rfl⟩) (Or.inr ⟨rfl, rfl⟩)) ?_
  refine bn_bd_c fun h27 => ?_
  refine Eq.trans (be_aload_n bd_76_79 rfl) ?_
  refine Eq.trans (be_iconst (v := 2) bd_76_80 (by decide)) ?_
  refine Eq.trans (be_newZ (N := 2) bd_76_81 (by decide) (by decide)) ?_
  refine bn_nc_c fun p29 h28 => ?_
  refine Eq.trans (be_putR bd_76_83 bf_3_39 rfl (Or.inl ⟨_, rfl⟩) (Or.inr ⟨rfl, rfl⟩)) ?_
  refine bn_bd_c fun h30 => ?_
  refine Eq.trans (be_aload_n bd_76_86 rfl) ?_
  refine Eq.trans (be_sipush (v := 144) bd_76_87 (by decide)) ?_
  refine Eq.trans (be_newI (N := 144) bd_76_90 (by decide) (by decide)) ?_
  refine bn_nc_c fun p32 h31 => ?_
  refine Eq.trans (be_putR bd_76_92 bf_3_42 rfl (Or.inl ⟨_, rfl⟩) (Or.inr ⟨rfl, rfl⟩)) ?_
  refine bn_bd_c fun h33 => ?_
  refine Eq.trans (be_aload_n bd_76_95 rfl) ?_
  refine Eq.trans (be_iconst (v := 2) bd_76_96 (by decide)) ?_
  refine Eq.trans (be_newJ (N := 2) bd_76_97 (by decide) (by decide)) ?_
  refine bn_nc_c fun p35 h34 => ?_
  refine Eq.trans (be_putR bd_76_99 bf_3_45 rfl (Or.inl ⟨_, rfl⟩) (Or.inr ⟨rfl, rfl⟩)) ?_
  refine bn_bd_c fun h36 => ?_
  refine Eq.trans (be_aload_n bd_76_102 rfl) ?_
  refine Eq.trans (be_bipush (v := 9) bd_76_103 (by decide)) ?_
  refine Eq.trans (be_putI bd_76_105 bf_3_48 rfl rfl) ?_
  refine bn_bd_c fun h37 => ?_
  refine Eq.trans (be_aload_n bd_76_108 rfl) ?_
  refine Eq.trans (be_bipush (v := 9) bd_76_109 (by decide)) ?_
  refine Eq.trans (be_putI bd_76_111 bf_3_52 rfl rfl) ?_
  refine bn_bd_c fun h38 => ?_
  exact be_return bd_76_114 rfl
