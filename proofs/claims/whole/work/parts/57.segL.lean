/-! segments: the law -/
theorem bs_L_law_0  (h : bn_H) : bn_ev 132 0 [some (.retAddr 0), none, none, none] [] h = bn_nc h (.inr (2, bn_ob 2)) (bn_N 2) (fun p2 h1 => bn_cV (bn_ev 45 0 [some (.ref p2), none] [] h1) (fun h3 => bn_nc h3 (.inr (3, bn_ob 3)) (bn_N 3) (fun p6 h5 => bn_cV (bn_ev 76 0 [some (.ref p6)] [] h5) (fun h7 => bn_ev 132 18 [some (.retAddr 0), some (.ref p2), some (.ref p6), some (.int 0)] [] h7)))) := by
  refine Eq.trans (be_newA (ci := 2) bd_132_0 (by decide)) ?_
  refine bn_nc_c fun p2 h1 => ?_
  refine Eq.trans (be_dup bd_132_3 rfl) ?_
  refine Eq.trans (be_specV (as := []) (rr := [.ref p2]) (en := [some (.ref p2), none]) bd_132_4 bm_4_9 (Or.inl rfl) rfl rfl rfl ⟨Nat.le_of_ble_eq_true rfl, Nat.le_of_ble_eq_true rfl, Nat.le_of_ble_eq_true rfl, Nat.le_of_ble_eq_true rfl⟩ rfl) ?_
  refine bn_cV_c fun h3 => ?_
  refine Eq.trans (be_astore_n (ls' := [some (.retAddr 0), some (.ref p2), none, none]) bd_132_7 (Nat.le_of_ble_eq_true rfl) rfl) ?_
  refine Eq.trans (be_newA (ci := 3) bd_132_8 (by decide)) ?_
  refine bn_nc_c fun p6 h5 => ?_
  refine Eq.trans (be_dup bd_132_11 rfl) ?_
  refine Eq.trans (be_specV (as := []) (rr := [.ref p6]) (en := [some (.ref p6)]) bd_132_12 bm_4_12 (Or.inl rfl) rfl rfl rfl ⟨Nat.le_of_ble_eq_true rfl, Nat.le_of_ble_eq_true rfl, Nat.le_of_ble_eq_true rfl, Nat.le_of_ble_eq_true rfl⟩ rfl) ?_
  refine bn_cV_c fun h7 => ?_
  refine Eq.trans (be_astore_n (ls' := [some (.retAddr 0), some (.ref p2), some (.ref p6), none]) bd_132_15 (Nat.le_of_ble_eq_true rfl) rfl) ?_
  refine Eq.trans (be_iconst (v := 0) bd_132_16 (by decide)) ?_
  refine Eq.trans (be_istore_n (ls' := [some (.retAddr 0), some (.ref p2), some (.ref p6), some (.int 0)]) bd_132_17 (Nat.le_of_ble_eq_true rfl) rfl) ?_
  rfl
theorem bs_L_law_18 (a1 : Nat) (a2 : Nat) (a3 : Int32) (h : bn_H) : bn_ev 132 18 [some (.retAddr 0), some (.ref a1), some (.ref a2), some (.int a3)] [] h = if ((Int32.ofNat h.1.1) - 5) < a3 then (some (some (.int 1), h)) else (if a3 < 0 ∨ h.1.1 ≤ a3.toNatClampNeg then none else (if ((h.1.2 a3.toNatClampNeg) &&& 31) = 0 then (bn_ev 132 140 [some (.retAddr 0), some (.ref a1), some (.ref a2), some (.int a3)] [] h) else (if ((h.1.2 a3.toNatClampNeg) &&& 31) = 1 then (bn_ev 132 203 [some (.retAddr 0), some (.ref a1), some (.ref a2), some (.int a3)] [] h) else (if ((h.1.2 a3.toNatClampNeg) &&& 31) = 2 then (bn_ev 132 216 [some (.retAddr 0), some (.ref a1), some (.ref a2), some (.int a3)] [] h) else (if ((h.1.2 a3.toNatClampNeg) &&& 31) = 3 then (bn_ev 132 229 [some (.retAddr 0), some (.ref a1), some (.ref a2), some (.int a3)] [] h) else (if ((h.1.2 a3.toNatClampNeg) &&& 31) = 4 then (bn_ev 132 242 [some (.retAddr 0), some (.ref a1), some (.ref a2), some (.int a3)] [] h) else (if ((h.1.2 a3.toNatClampNeg) &&& 31) = 5 then (bn_ev 132 275 [some (.retAddr 0), some (.ref a1), some (.ref a2), some (.int a3)] [] h) else (if ((h.1.2 a3.toNatClampNeg) &&& 31) = 6 then (bn_ev 132 308 [some (.retAddr 0), some (.ref a1), some (.ref a2), some (.int a3)] [] h) else (if ((h.1.2 a3.toNatClampNeg) &&& 31) = 7 then (bn_ev 132 341 [some (.retAddr 0), some (.ref a1), some (.ref a2), some (.int a3)] [] h) else (if ((h.1.2 a3.toNatClampNeg) &&& 31) = 8 then (bn_ev 132 374 [some (.retAddr 0), some (.ref a1), some (.ref a2), some (.int a3)] [] h) else (if ((h.1.2 a3.toNatClampNeg) &&& 31) = 9 then (bn_ev 132 407 [some (.retAddr 0), some (.ref a1), some (.ref a2), some (.int a3)] [] h) else (if ((h.1.2 a3.toNatClampNeg) &&& 31) = 10 then (bn_ev 132 430 [some (.retAddr 0), some (.ref a1), some (.ref a2), some (.int a3)] [] h) else (if ((h.1.2 a3.toNatClampNeg) &&& 31) = 11 then (bn_ev 132 443 [some (.retAddr 0), some (.ref a1), some (.ref a2), some (.int a3)] [] h) else (if ((h.1.2 a3.toNatClampNeg) &&& 31) = 12 then (bn_ev 132 456 [some (.retAddr 0), some (.ref a1), some (.ref a2), some (.int a3)] [] h) else (if ((h.1.2 a3.toNatClampNeg) &&& 31) = 13 then (bn_ev 132 469 [some (.retAddr 0), some (.ref a1), some (.ref a2), some (.int a3)] [] h) else (if ((h.1.2 a3.toNatClampNeg) &&& 31) = 14 then (bn_ev 132 523 [some (.retAddr 0), some (.ref a1), some (.ref a2), some (.int a3)] [] h) else (if ((h.1.2 a3.toNatClampNeg) &&& 31) = 15 then (bn_ev 132 536 [some (.retAddr 0), some (.ref a1), some (.ref a2), some (.int a3)] [] h) else (if ((h.1.2 a3.toNatClampNeg) &&& 31) = 16 then (bn_ev 132 549 [some (.retAddr 0), some (.ref a1), some (.ref a2), some (.int a3)] [] h) else (if ((h.1.2 a3.toNatClampNeg) &&& 31) = 17 then (bn_ev 132 562 [some (.retAddr 0), some (.ref a1), some (.ref a2), some (.int a3)] [] h) else (if ((h.1.2 a3.toNatClampNeg) &&& 31) = 18 then (bn_ev 132 585 [some (.retAddr 0), some (.ref a1), some (.ref a2), some (.int a3)] [] h) else (if ((h.1.2 a3.toNatClampNeg) &&& 31) = 19 then (bn_ev 132 654 [some (.retAddr 0), some (.ref a1), some (.ref a2), some (.int a3)] [] h) else (if ((h.1.2 a3.toNatClampNeg) &&& 31) = 20 then (bn_ev 132 704 [some (.retAddr 0), some (.ref a1), some (.ref a2), some (.int a3)] [] h) else (if ((h.1.2 a3.toNatClampNeg) &&& 31) = 21 then (bn_ev 132 727 [some (.retAddr 0), some (.ref a1), some (.ref a2), some (.int a3)] [] h) else (if ((h.1.2 a3.toNatClampNeg) &&& 31) = 22 then (bn_ev 132 750 [some (.retAddr 0), some (.ref a1), some (.ref a2), some (.int a3)] [] h) else (bn_ev 132 773 [some (.retAddr 0), some (.ref a1), some (.ref a2), some (.int a3)] [] h))))))))))))))))))))))))) := by
  refine Eq.trans (be_iload_n bd_132_18 rfl) ?_
  refine Eq.trans (be_sload_n bd_132_19 rfl) ?_
  refine Eq.trans (be_arraylength bd_132_20) ?_
  refine Eq.trans (be_iconst (v := 5) bd_132_21 (by decide)) ?_
  refine Eq.trans (be_isub bd_132_22) ?_
  refine Eq.trans (be_icmp_gt (t := 779) bd_132_23 rfl) ?_
  refine bn_if_c ?_ ?_
  · refine Eq.trans (be_iconst (v := 1) bd_132_779 (by decide)) ?_
    exact be_z0 bd_132_780 rfl (Or.inr rfl)
  · refine Eq.trans (be_sload_n bd_132_26 rfl) ?_
    refine Eq.trans (be_iload_n bd_132_27 rfl) ?_
    refine Eq.trans (be_saload bd_132_28) ?_
    refine bn_if_c rfl ?_
    refine Eq.trans (be_bipush (v := 31) bd_132_29 (by decide)) ?_
    refine Eq.trans (be_iand bd_132_31) ?_
    refine bn_sw (x := ((h.1.2 a3.toNatClampNeg) &&& 31)) (v := 0) (fun he => ?_) (fun hn0 => ?_)
    · rw [he]
      refine Eq.trans (be_tabin (off := 108) (t := 140) bd_132_32 (by decide) rfl rfl) ?_
      rfl
    refine bn_sw (x := ((h.1.2 a3.toNatClampNeg) &&& 31)) (v := 1) (fun he => ?_) (fun hn1 => ?_)
    · rw [he]
      refine Eq.trans (be_tabin (off := 171) (t := 203) bd_132_32 (by decide) rfl rfl) ?_
      rfl
    refine bn_sw (x := ((h.1.2 a3.toNatClampNeg) &&& 31)) (v := 2) (fun he => ?_) (fun hn2 => ?_)
    · rw [he]
      refine Eq.trans (be_tabin (off := 184) (t := 216) bd_132_32 (by decide) rfl rfl) ?_
      rfl
    refine bn_sw (x := ((h.1.2 a3.toNatClampNeg) &&& 31)) (v := 3) (fun he => ?_) (fun hn3 => ?_)
    · rw [he]
      refine Eq.trans (be_tabin (off := 197) (t := 229) bd_132_32 (by decide) rfl rfl) ?_
      rfl
    refine bn_sw (x := ((h.1.2 a3.toNatClampNeg) &&& 31)) (v := 4) (fun he => ?_) (fun hn4 => ?_)
    · rw [he]
      refine Eq.trans (be_tabin (off := 210) (t := 242) bd_132_32 (by decide) rfl rfl) ?_
      rfl
    refine bn_sw (x := ((h.1.2 a3.toNatClampNeg) &&& 31)) (v := 5) (fun he => ?_) (fun hn5 => ?_)
    · rw [he]
      refine Eq.trans (be_tabin (off := 243) (t := 275) bd_132_32 (by decide) rfl rfl) ?_
      rfl
    refine bn_sw (x := ((h.1.2 a3.toNatClampNeg) &&& 31)) (v := 6) (fun he => ?_) (fun hn6 => ?_)
    · rw [he]
      refine Eq.trans (be_tabin (off := 276) (t := 308) bd_132_32 (by decide) rfl rfl) ?_
      rfl
    refine bn_sw (x := ((h.1.2 a3.toNatClampNeg) &&& 31)) (v := 7) (fun he => ?_) (fun hn7 => ?_)
    · rw [he]
      refine Eq.trans (be_tabin (off := 309) (t := 341) bd_132_32 (by decide) rfl rfl) ?_
      rfl
    refine bn_sw (x := ((h.1.2 a3.toNatClampNeg) &&& 31)) (v := 8) (fun he => ?_) (fun hn8 => ?_)
    · rw [he]
      refine Eq.trans (be_tabin (off := 342) (t := 374) bd_132_32 (by decide) rfl rfl) ?_
      rfl
    refine bn_sw (x := ((h.1.2 a3.toNatClampNeg) &&& 31)) (v := 9) (fun he => ?_) (fun hn9 => ?_)
    · rw [he]
      refine Eq.trans (be_tabin (off := 375) (t := 407) bd_132_32 (by decide) rfl rfl) ?_
      rfl
    refine bn_sw (x := ((h.1.2 a3.toNatClampNeg) &&& 31)) (v := 10) (fun he => ?_) (fun hn10 => ?_)
    · rw [he]
      refine Eq.trans (be_tabin (off := 398) (t := 430) bd_132_32 (by decide) rfl rfl) ?_
      rfl
    refine bn_sw (x := ((h.1.2 a3.toNatClampNeg) &&& 31)) (v := 11) (fun he => ?_) (fun hn11 => ?_)
    · rw [he]
      refine Eq.trans (be_tabin (off := 411) (t := 443) bd_132_32 (by decide) rfl rfl) ?_
      rfl
    refine bn_sw (x := ((h.1.2 a3.toNatClampNeg) &&& 31)) (v := 12) (fun he => ?_) (fun hn12 => ?_)
    · rw [he]
      refine Eq.trans (be_tabin (off := 424) (t := 456) bd_132_32 (by decide) rfl rfl) ?_
      rfl
    refine bn_sw (x := ((h.1.2 a3.toNatClampNeg) &&& 31)) (v := 13) (fun he => ?_) (fun hn13 => ?_)
    · rw [he]
      refine Eq.trans (be_tabin (off := 437) (t := 469) bd_132_32 (by decide) rfl rfl) ?_
      rfl
    refine bn_sw (x := ((h.1.2 a3.toNatClampNeg) &&& 31)) (v := 14) (fun he => ?_) (fun hn14 => ?_)
    · rw [he]
      refine Eq.trans (be_tabin (off := 491) (t := 523) bd_132_32 (by decide) rfl rfl) ?_
      rfl
    refine bn_sw (x := ((h.1.2 a3.toNatClampNeg) &&& 31)) (v := 15) (fun he => ?_) (fun hn15 => ?_)
    · rw [he]
      refine Eq.trans (be_tabin (off := 504) (t := 536) bd_132_32 (by decide) rfl rfl) ?_
      rfl
    refine bn_sw (x := ((h.1.2 a3.toNatClampNeg) &&& 31)) (v := 16) (fun he => ?_) (fun hn16 => ?_)
    · rw [he]
      refine Eq.trans (be_tabin (off := 517) (t := 549) bd_132_32 (by decide) rfl rfl) ?_
      rfl
    refine bn_sw (x := ((h.1.2 a3.toNatClampNeg) &&& 31)) (v := 17) (fun he => ?_) (fun hn17 => ?_)
    · rw [he]
      refine Eq.trans (be_tabin (off := 530) (t := 562) bd_132_32 (by decide) rfl rfl) ?_
      rfl
    refine bn_sw (x := ((h.1.2 a3.toNatClampNeg) &&& 31)) (v := 18) (fun he => ?_) (fun hn18 => ?_)
    · rw [he]
      refine Eq.trans (be_tabin (off := 553) (t := 585) bd_132_32 (by decide) rfl rfl) ?_
      rfl
    refine bn_sw (x := ((h.1.2 a3.toNatClampNeg) &&& 31)) (v := 19) (fun he => ?_) (fun hn19 => ?_)
    · rw [he]
      refine Eq.trans (be_tabin (off := 622) (t := 654) bd_132_32 (by decide) rfl rfl) ?_
      rfl
    refine bn_sw (x := ((h.1.2 a3.toNatClampNeg) &&& 31)) (v := 20) (fun he => ?_) (fun hn20 => ?_)
    · rw [he]
      refine Eq.trans (be_tabin (off := 672) (t := 704) bd_132_32 (by decide) rfl rfl) ?_
      rfl
    refine bn_sw (x := ((h.1.2 a3.toNatClampNeg) &&& 31)) (v := 21) (fun he => ?_) (fun hn21 => ?_)
    · rw [he]
      refine Eq.trans (be_tabin (off := 695) (t := 727) bd_132_32 (by decide) rfl rfl) ?_
      rfl
    refine bn_sw (x := ((h.1.2 a3.toNatClampNeg) &&& 31)) (v := 22) (fun he => ?_) (fun hn22 => ?_)
    · rw [he]
      refine Eq.trans (be_tabin (off := 718) (t := 750) bd_132_32 (by decide) rfl rfl) ?_
      rfl
    have q0 : ((h.1.2 a3.toNatClampNeg) &&& 31).toInt ≠ 0 := fun q => hn0 (Int32.toInt_inj.mp (q.trans (by decide)))
    have q1 : ((h.1.2 a3.toNatClampNeg) &&& 31).toInt ≠ 1 := fun q => hn1 (Int32.toInt_inj.mp (q.trans (by decide)))
    have q2 : ((h.1.2 a3.toNatClampNeg) &&& 31).toInt ≠ 2 := fun q => hn2 (Int32.toInt_inj.mp (q.trans (by decide)))
    have q3 : ((h.1.2 a3.toNatClampNeg) &&& 31).toInt ≠ 3 := fun q => hn3 (Int32.toInt_inj.mp (q.trans (by decide)))
    have q4 : ((h.1.2 a3.toNatClampNeg) &&& 31).toInt ≠ 4 := fun q => hn4 (Int32.toInt_inj.mp (q.trans (by decide)))
    have q5 : ((h.1.2 a3.toNatClampNeg) &&& 31).toInt ≠ 5 := fun q => hn5 (Int32.toInt_inj.mp (q.trans (by decide)))
    have q6 : ((h.1.2 a3.toNatClampNeg) &&& 31).toInt ≠ 6 := fun q => hn6 (Int32.toInt_inj.mp (q.trans (by decide)))
    have q7 : ((h.1.2 a3.toNatClampNeg) &&& 31).toInt ≠ 7 := fun q => hn7 (Int32.toInt_inj.mp (q.trans (by decide)))
    have q8 : ((h.1.2 a3.toNatClampNeg) &&& 31).toInt ≠ 8 := fun q => hn8 (Int32.toInt_inj.mp (q.trans (by decide)))
    have q9 : ((h.1.2 a3.toNatClampNeg) &&& 31).toInt ≠ 9 := fun q => hn9 (Int32.toInt_inj.mp (q.trans (by decide)))
    have q10 : ((h.1.2 a3.toNatClampNeg) &&& 31).toInt ≠ 10 := fun q => hn10 (Int32.toInt_inj.mp (q.trans (by decide)))
    have q11 : ((h.1.2 a3.toNatClampNeg) &&& 31).toInt ≠ 11 := fun q => hn11 (Int32.toInt_inj.mp (q.trans (by decide)))
    have q12 : ((h.1.2 a3.toNatClampNeg) &&& 31).toInt ≠ 12 := fun q => hn12 (Int32.toInt_inj.mp (q.trans (by decide)))
    have q13 : ((h.1.2 a3.toNatClampNeg) &&& 31).toInt ≠ 13 := fun q => hn13 (Int32.toInt_inj.mp (q.trans (by decide)))
    have q14 : ((h.1.2 a3.toNatClampNeg) &&& 31).toInt ≠ 14 := fun q => hn14 (Int32.toInt_inj.mp (q.trans (by decide)))
    have q15 : ((h.1.2 a3.toNatClampNeg) &&& 31).toInt ≠ 15 := fun q => hn15 (Int32.toInt_inj.mp (q.trans (by decide)))
    have q16 : ((h.1.2 a3.toNatClampNeg) &&& 31).toInt ≠ 16 := fun q => hn16 (Int32.toInt_inj.mp (q.trans (by decide)))
    have q17 : ((h.1.2 a3.toNatClampNeg) &&& 31).toInt ≠ 17 := fun q => hn17 (Int32.toInt_inj.mp (q.trans (by decide)))
    have q18 : ((h.1.2 a3.toNatClampNeg) &&& 31).toInt ≠ 18 := fun q => hn18 (Int32.toInt_inj.mp (q.trans (by decide)))
    have q19 : ((h.1.2 a3.toNatClampNeg) &&& 31).toInt ≠ 19 := fun q => hn19 (Int32.toInt_inj.mp (q.trans (by decide)))
    have q20 : ((h.1.2 a3.toNatClampNeg) &&& 31).toInt ≠ 20 := fun q => hn20 (Int32.toInt_inj.mp (q.trans (by decide)))
    have q21 : ((h.1.2 a3.toNatClampNeg) &&& 31).toInt ≠ 21 := fun q => hn21 (Int32.toInt_inj.mp (q.trans (by decide)))
    have q22 : ((h.1.2 a3.toNatClampNeg) &&& 31).toInt ≠ 22 := fun q => hn22 (Int32.toInt_inj.mp (q.trans (by decide)))
    refine Eq.trans (be_tabout (t := 773) bd_132_32 (by omega) rfl) ?_
    rfl
theorem bs_L_law_140 (a1 : Nat) (a2 : Nat) (a3 : Int32) (h : bn_H) : bn_ev 132 140 [some (.retAddr 0), some (.ref a1), some (.ref a2), some (.int a3)] [] h = if (a3 + 1) < 0 ∨ h.1.1 ≤ (a3 + 1).toNatClampNeg then none else (if (a3 + 2) < 0 ∨ h.1.1 ≤ (a3 + 2).toNatClampNeg then none else (if (a3 + 3) < 0 ∨ h.1.1 ≤ (a3 + 3).toNatClampNeg then none else (bn_gd (bn_isC h a1 2) (bn_cI (bn_ev 46 0 [some (.ref a1), some (.int (h.1.2 (a3 + 1).toNatClampNeg)), some (.long ((bn_lshl ((h.1.2 (a3 + 2).toNatClampNeg).toInt64) 32) ||| (((h.1.2 (a3 + 3).toNatClampNeg).toInt64) &&& 4294967295))), none, none] [] h) (fun x2 h1 => if (a3 + 1) < 0 ∨ h1.1.1 ≤ (a3 + 1).toNatClampNeg then none else (if (a3 + 2) < 0 ∨ h1.1.1 ≤ (a3 + 2).toNatClampNeg then none else (if (a3 + 3) < 0 ∨ h1.1.1 ≤ (a3 + 3).toNatClampNeg then none else (bn_gd (bn_isC h1 a2 3) (bn_cI (bn_ev 78 0 [some (.ref a2), some (.int (h1.1.2 (a3 + 1).toNatClampNeg)), some (.long ((bn_lshl ((h1.1.2 (a3 + 2).toNatClampNeg).toInt64) 32) ||| (((h1.1.2 (a3 + 3).toNatClampNeg).toInt64) &&& 4294967295))), none, none] [] h1) (fun x4 h3 => if x2 = x4 then (bn_ev 132 773 [some (.retAddr 0), some (.ref a1), some (.ref a2), some (.int a3)] [] h3) else (some (some (.int 0), h3)))))))))))) := by
  refine Eq.trans (be_aload_n bd_132_140 rfl) ?_
  refine Eq.trans (be_sload_n bd_132_141 rfl) ?_
  refine Eq.trans (be_iload_n bd_132_142 rfl) ?_
  refine Eq.trans (be_iconst (v := 1) bd_132_143 (by decide)) ?_
  refine Eq.trans (be_iadd bd_132_144) ?_
  refine Eq.trans (be_saload bd_132_145) ?_
  refine bn_if_c rfl ?_
  refine Eq.trans (be_sload_n bd_132_146 rfl) ?_
  refine Eq.trans (be_iload_n bd_132_147 rfl) ?_
  refine Eq.trans (be_iconst (v := 2) bd_132_148 (by decide)) ?_
  refine Eq.trans (be_iadd bd_132_149) ?_
  refine Eq.trans (be_saload bd_132_150) ?_
  refine bn_if_c rfl ?_
  refine Eq.trans (be_i2l bd_132_151) ?_
  refine Eq.trans (be_bipush (v := 32) bd_132_152 (by decide)) ?_
  refine Eq.trans (be_lshl bd_132_154) ?_
  refine Eq.trans (be_sload_n bd_132_155 rfl) ?_
  refine Eq.trans (be_iload_n bd_132_156 rfl) ?_
  refine Eq.trans (be_iconst (v := 3) bd_132_157 (by decide)) ?_
  refine Eq.trans (be_iadd bd_132_158) ?_
  refine Eq.trans (be_saload bd_132_159) ?_
  refine bn_if_c rfl ?_
  refine Eq.trans (be_i2l bd_132_160) ?_
  refine Eq.trans (be_ldc2w (v := 4294967295) bd_132_161 rfl) ?_
  refine Eq.trans (be_land bd_132_164) ?_
  refine Eq.trans (be_lor bd_132_165) ?_
  refine Eq.trans (be_virtI (as := [.long ((bn_lshl ((h.1.2 (a3 + 2).toNatClampNeg).toInt64) 32) ||| (((h.1.2 (a3 + 3).toNatClampNeg).toInt64) &&& 4294967295)), .int (h.1.2 (a3 + 1).toNatClampNeg)]) (rr := []) (en := [some (.ref a1), some (.int (h.1.2 (a3 + 1).toNatClampNeg)), some (.long ((bn_lshl ((h.1.2 (a3 + 2).toNatClampNeg).toInt64) 32) ||| (((h.1.2 (a3 + 3).toNatClampNeg).toInt64) &&& 4294967295))), none, none]) bd_132_166 bm_4_15 rfl rfl rfl ⟨Nat.le_of_ble_eq_true rfl, Nat.le_of_ble_eq_true rfl, Nat.le_of_ble_eq_true rfl, Nat.le_of_ble_eq_true rfl⟩ (Or.inl rfl)) ?_
  refine bn_gd_c (bn_cI_c fun x2 h1 => ?_)
  refine Eq.trans (be_aload_n bd_132_169 rfl) ?_
  refine Eq.trans (be_sload_n bd_132_170 rfl) ?_
  refine Eq.trans (be_iload_n bd_132_171 rfl) ?_
  refine Eq.trans (be_iconst (v := 1) bd_132_172 (by decide)) ?_
  refine Eq.trans (be_iadd bd_132_173) ?_
  refine Eq.trans (be_saload bd_132_174) ?_
  refine bn_if_c rfl ?_
  refine Eq.trans (be_sload_n bd_132_175 rfl) ?_
  refine Eq.trans (be_iload_n bd_132_176 rfl) ?_
  refine Eq.trans (be_iconst (v := 2) bd_132_177 (by decide)) ?_
  refine Eq.trans (be_iadd bd_132_178) ?_
  refine Eq.trans (be_saload bd_132_179) ?_
  refine bn_if_c rfl ?_
  refine Eq.trans (be_i2l bd_132_180) ?_
  refine Eq.trans (be_bipush (v := 32) bd_132_181 (by decide)) ?_
  refine Eq.trans (be_lshl bd_132_183) ?_
  refine Eq.trans (be_sload_n bd_132_184 rfl) ?_
  refine Eq.trans (be_iload_n bd_132_185 rfl) ?_
  refine Eq.trans (be_iconst (v := 3) bd_132_186 (by decide)) ?_
  refine Eq.trans (be_iadd bd_132_187) ?_
  refine Eq.trans (be_saload bd_132_188) ?_
  refine bn_if_c rfl ?_
  refine Eq.trans (be_i2l bd_132_189) ?_
  refine Eq.trans (be_ldc2w (v := 4294967295) bd_132_190 rfl) ?_
  refine Eq.trans (be_land bd_132_193) ?_
  refine Eq.trans (be_lor bd_132_194) ?_
  refine Eq.trans (be_virtI (as := [.long ((bn_lshl ((h1.1.2 (a3 + 2).toNatClampNeg).toInt64) 32) ||| (((h1.1.2 (a3 + 3).toNatClampNeg).toInt64) &&& 4294967295)), .int (h1.1.2 (a3 + 1).toNatClampNeg)]) (rr := [.int x2]) (en := [some (.ref a2), some (.int (h1.1.2 (a3 + 1).toNatClampNeg)), some (.long ((bn_lshl ((h1.1.2 (a3 + 2).toNatClampNeg).toInt64) 32) ||| (((h1.1.2 (a3 + 3).toNatClampNeg).toInt64) &&& 4294967295))), none, none]) bd_132_195 bm_4_19 rfl rfl rfl ⟨Nat.le_of_ble_eq_true rfl, Nat.le_of_ble_eq_true rfl, Nat.le_of_ble_eq_true rfl, Nat.le_of_ble_eq_true rfl⟩ (Or.inl rfl)) ?_
  refine bn_gd_c (bn_cI_c fun x4 h3 => ?_)
  refine Eq.trans (be_icmp_eq (t := 773) bd_132_198 rfl) ?_
  refine bn_if_c ?_ ?_
  · rfl
  · refine Eq.trans (be_iconst (v := 0) bd_132_201 (by decide)) ?_
    exact be_z0 bd_132_202 rfl (Or.inl rfl)
theorem bs_L_law_203 (a1 : Nat) (a2 : Nat) (a3 : Int32) (h : bn_H) : bn_ev 132 203 [some (.retAddr 0), some (.ref a1), some (.ref a2), some (.int a3)] [] h = bn_gd (bn_isC h a1 2) (bn_cI (bn_ev 47 0 [some (.ref a1), none] [] h) (fun x2 h1 => bn_gd (bn_isC h1 a2 3) (bn_cI (bn_ev 79 0 [some (.ref a2), none] [] h1) (fun x4 h3 => if x2 = x4 then (bn_ev 132 773 [some (.retAddr 0), some (.ref a1), some (.ref a2), some (.int a3)] [] h3) else (some (some (.int 0), h3)))))) := by
  refine Eq.trans (be_aload_n bd_132_203 rfl) ?_
  refine Eq.trans (be_virtI (as := []) (rr := []) (en := [some (.ref a1), none]) bd_132_204 bm_4_20 rfl rfl rfl ⟨Nat.le_of_ble_eq_true rfl, Nat.le_of_ble_eq_true rfl, Nat.le_of_ble_eq_true rfl, Nat.le_of_ble_eq_true rfl⟩ (Or.inl rfl)) ?_
  refine bn_gd_c (bn_cI_c fun x2 h1 => ?_)
  refine Eq.trans (be_aload_n bd_132_207 rfl) ?_
  refine Eq.trans (be_virtI (as := []) (rr := [.int x2]) (en := [some (.ref a2), none]) bd_132_208 bm_4_24 rfl rfl rfl ⟨Nat.le_of_ble_eq_true rfl, Nat.le_of_ble_eq_true rfl, Nat.le_of_ble_eq_true rfl, Nat.le_of_ble_eq_true rfl⟩ (Or.inl rfl)) ?_
  refine bn_gd_c (bn_cI_c fun x4 h3 => ?_)
  refine Eq.trans (be_icmp_eq (t := 773) bd_132_211 rfl) ?_
  refine bn_if_c ?_ ?_
  · rfl
  · refine Eq.trans (be_iconst (v := 0) bd_132_214 (by decide)) ?_
    exact be_z0 bd_132_215 rfl (Or.inl rfl)
theorem bs_L_law_216 (a1 : Nat) (a2 : Nat) (a3 : Int32) (h : bn_H) : bn_ev 132 216 [some (.retAddr 0), some (.ref a1), some (.ref a2), some (.int a3)] [] h = bn_gd (bn_isC h a1 2) (bn_cI (bn_ev 48 0 [some (.ref a1)] [] h) (fun x2 h1 => bn_gd (bn_isC h1 a2 3) (bn_cI (bn_ev 84 0 [some (.ref a2)] [] h1) (fun x4 h3 => if x2 = x4 then (bn_ev 132 773 [some (.retAddr 0), some (.ref a1), some (.ref a2), some (.int a3)] [] h3) else (some (some (.int 0), h3)))))) := by
  refine Eq.trans (be_aload_n bd_132_216 rfl) ?_
  refine Eq.trans (be_virtI (as := []) (rr := []) (en := [some (.ref a1)]) bd_132_217 bm_4_25 rfl rfl rfl ⟨Nat.le_of_ble_eq_true rfl, Nat.le_of_ble_eq_true rfl, Nat.le_of_ble_eq_true rfl, Nat.le_of_ble_eq_true rfl⟩ (Or.inl rfl)) ?_
  refine bn_gd_c (bn_cI_c fun x2 h1 => ?_)
  refine Eq.trans (be_aload_n bd_132_220 rfl) ?_
  refine Eq.trans (be_virtI (as := []) (rr := [.int x2]) (en := [some (.ref a2)]) bd_132_221 bm_4_28 rfl rfl rfl ⟨Nat.le_of_ble_eq_true rfl, Nat.le_of_ble_eq_true rfl, Nat.le_of_ble_eq_true rfl, Nat.le_of_ble_eq_true rfl⟩ (Or.inl rfl)) ?_
  refine bn_gd_c (bn_cI_c fun x4 h3 => ?_)
  refine Eq.trans (be_icmp_eq (t := 773) bd_132_224 rfl) ?_
  refine bn_if_c ?_ ?_
  · rfl
  · refine Eq.trans (be_iconst (v := 0) bd_132_227 (by decide)) ?_
    exact be_z0 bd_132_228 rfl (Or.inl rfl)
theorem bs_L_law_229 (a1 : Nat) (a2 : Nat) (a3 : Int32) (h : bn_H) : bn_ev 132 229 [some (.retAddr 0), some (.ref a1), some (.ref a2), some (.int a3)] [] h = bn_gd (bn_isC h a1 2) (bn_cI (bn_ev 49 0 [some (.ref a1), none] [] h) (fun x2 h1 => bn_gd (bn_isC h1 a2 3) (bn_cI (bn_ev 85 0 [some (.ref a2), none] [] h1) (fun x4 h3 => if x2 = x4 then (bn_ev 132 773 [some (.retAddr 0), some (.ref a1), some (.ref a2), some (.int a3)] [] h3) else (some (some (.int 0), h3)))))) := by
  refine Eq.trans (be_aload_n bd_132_229 rfl) ?_
  refine Eq.trans (be_virtI (as := []) (rr := []) (en := [some (.ref a1), none]) bd_132_230 bm_4_29 rfl rfl rfl ⟨Nat.le_of_ble_eq_true rfl, Nat.le_of_ble_eq_true rfl, Nat.le_of_ble_eq_true rfl, Nat.le_of_ble_eq_true rfl⟩ (Or.inl rfl)) ?_
  refine bn_gd_c (bn_cI_c fun x2 h1 => ?_)
  refine Eq.trans (be_aload_n bd_132_233 rfl) ?_
  refine Eq.trans (be_virtI (as := []) (rr := [.int x2]) (en := [some (.ref a2), none]) bd_132_234 bm_4_32 rfl rfl rfl ⟨Nat.le_of_ble_eq_true rfl, Nat.le_of_ble_eq_true rfl, Nat.le_of_ble_eq_true rfl, Nat.le_of_ble_eq_true rfl⟩ (Or.inl rfl)) ?_
  refine bn_gd_c (bn_cI_c fun x4 h3 => ?_)
  refine Eq.trans (be_icmp_eq (t := 773) bd_132_237 rfl) ?_
  refine bn_if_c ?_ ?_
  · rfl
  · refine Eq.trans (be_iconst (v := 0) bd_132_240 (by decide)) ?_
    exact be_z0 bd_132_241 rfl (Or.inl rfl)
theorem bs_L_law_242 (a1 : Nat) (a2 : Nat) (a3 : Int32) (h : bn_H) : bn_ev 132 242 [some (.retAddr 0), some (.ref a1), some (.ref a2), some (.int a3)] [] h = if (a3 + 1) < 0 ∨ h.1.1 ≤ (a3 + 1).toNatClampNeg then none else (if (a3 + 2) < 0 ∨ h.1.1 ≤ (a3 + 2).toNatClampNeg then none else (bn_gd (bn_isC h a1 2) (bn_cI (bn_ev 50 0 [some (.ref a1), some (.int (h.1.2 (a3 + 1).toNatClampNeg)), some (.int (h.1.2 (a3 + 2).toNatClampNeg))] [] h) (fun x2 h1 => if (a3 + 1) < 0 ∨ h1.1.1 ≤ (a3 + 1).toNatClampNeg then none else (if (a3 + 2) < 0 ∨ h1.1.1 ≤ (a3 + 2).toNatClampNeg then none else (bn_gd (bn_isC h1 a2 3) (bn_cI (bn_ev 92 0 [some (.ref a2), some (.int (h1.1.2 (a3 + 1).toNatClampNeg)), some (.int (h1.1.2 (a3 + 2).toNatClampNeg))] [] h1) (fun x4 h3 => if x2 = x4 then (bn_ev 132 773 [some (.retAddr 0), some (.ref a1), some (.ref a2), some (.int a3)] [] h3) else (some (some (.int 0), h3)))))))))) := by
  refine Eq.trans (be_aload_n bd_132_242 rfl) ?_
  refine Eq.trans (be_sload_n bd_132_243 rfl) ?_
  refine Eq.trans (be_iload_n bd_132_244 rfl) ?_
  refine Eq.trans (be_iconst (v := 1) bd_132_245 (by decide)) ?_
  refine Eq.trans (be_iadd bd_132_246) ?_
  refine Eq.trans (be_saload bd_132_247) ?_
  refine bn_if_c rfl ?_
  refine Eq.trans (be_sload_n bd_132_248 rfl) ?_
  refine Eq.trans (be_iload_n bd_132_249 rfl) ?_
  refine Eq.trans (be_iconst (v := 2) bd_132_250 (by decide)) ?_
  refine Eq.trans (be_iadd bd_132_251) ?_
  refine Eq.trans (be_saload bd_132_252) ?_
  refine bn_if_c rfl ?_
  refine Eq.trans (be_virtI (as := [.int (h.1.2 (a3 + 2).toNatClampNeg), .int (h.1.2 (a3 + 1).toNatClampNeg)]) (rr := []) (en := [some (.ref a1), some (.int (h.1.2 (a3 + 1).toNatClampNeg)), some (.int (h.1.2 (a3 + 2).toNatClampNeg))]) bd_132_253 bm_4_33 rfl rfl rfl ⟨Nat.le_of_ble_eq_true rfl, Nat.le_of_ble_eq_true rfl, Nat.le_of_ble_eq_true rfl, Nat.le_of_ble_eq_true rfl⟩ (Or.inl rfl)) ?_
  refine bn_gd_c (bn_cI_c fun x2 h1 => ?_)
  refine Eq.trans (be_aload_n bd_132_256 rfl) ?_
  refine Eq.trans (be_sload_n bd_132_257 rfl) ?_
  refine Eq.trans (be_iload_n bd_132_258 rfl) ?_
  refine Eq.trans (be_iconst (v := 1) bd_132_259 (by decide)) ?_
  refine Eq.trans (be_iadd bd_132_260) ?_
  refine Eq.trans (be_saload bd_132_261) ?_
  refine bn_if_c rfl ?_
  refine Eq.trans (be_sload_n bd_132_262 rfl) ?_
  refine Eq.trans (be_iload_n bd_132_263 rfl) ?_
  refine Eq.trans (be_iconst (v := 2) bd_132_264 (by decide)) ?_
  refine Eq.trans (be_iadd bd_132_265) ?_
  refine Eq.trans (be_saload bd_132_266) ?_
  refine bn_if_c rfl ?_
  refine Eq.trans (be_virtI (as := [.int (h1.1.2 (a3 + 2).toNatClampNeg), .int (h1.1.2 (a3 + 1).toNatClampNeg)]) (rr := [.int x2]) (en := [some (.ref a2), some (.int (h1.1.2 (a3 + 1).toNatClampNeg)), some (.int (h1.1.2 (a3 + 2).toNatClampNeg))]) bd_132_267 bm_4_37 rfl rfl rfl ⟨Nat.le_of_ble_eq_true rfl, Nat.le_of_ble_eq_true rfl, Nat.le_of_ble_eq_true rfl, Nat.le_of_ble_eq_true rfl⟩ (Or.inl rfl)) ?_
  refine bn_gd_c (bn_cI_c fun x4 h3 => ?_)
  refine Eq.trans (be_icmp_eq (t := 773) bd_132_270 rfl) ?_
  refine bn_if_c ?_ ?_
  · rfl
  · refine Eq.trans (be_iconst (v := 0) bd_132_273 (by decide)) ?_
    exact be_z0 bd_132_274 rfl (Or.inl rfl)
theorem bs_L_law_275 (a1 : Nat) (a2 : Nat) (a3 : Int32) (h : bn_H) : bn_ev 132 275 [some (.retAddr 0), some (.ref a1), some (.ref a2), some (.int a3)] [] h = if (a3 + 1) < 0 ∨ h.1.1 ≤ (a3 + 1).toNatClampNeg then none else (if (a3 + 2) < 0 ∨ h.1.1 ≤ (a3 + 2).toNatClampNeg then none else (bn_gd (bn_isC h a1 2) (bn_cI (bn_ev 51 0 [some (.ref a1), some (.int (h.1.2 (a3 + 1).toNatClampNeg)), some (.int (h.1.2 (a3 + 2).toNatClampNeg))] [] h) (fun x2 h1 => if (a3 + 1) < 0 ∨ h1.1.1 ≤ (a3 + 1).toNatClampNeg then none else (if (a3 + 2) < 0 ∨ h1.1.1 ≤ (a3 + 2).toNatClampNeg then none else (bn_gd (bn_isC h1 a2 3) (bn_cI (bn_ev 93 0 [some (.ref a2), some (.int (h1.1.2 (a3 + 1).toNatClampNeg)), some (.int (h1.1.2 (a3 + 2).toNatClampNeg))] [] h1) (fun x4 h3 => if x2 = x4 then (bn_ev 132 773 [some (.retAddr 0), some (.ref a1), some (.ref a2), some (.int a3)] [] h3) else (some (some (.int 0), h3)))))))))) := by
  refine Eq.trans (be_aload_n bd_132_275 rfl) ?_
  refine Eq.trans (be_sload_n bd_132_276 rfl) ?_
  refine Eq.trans (be_iload_n bd_132_277 rfl) ?_
  refine Eq.trans (be_iconst (v := 1) bd_132_278 (by decide)) ?_
  refine Eq.trans (be_iadd bd_132_279) ?_
  refine Eq.trans (be_saload bd_132_280) ?_
  refine bn_if_c rfl ?_
  refine Eq.trans (be_sload_n bd_132_281 rfl) ?_
  refine Eq.trans (be_iload_n bd_132_282 rfl) ?_
  refine Eq.trans (be_iconst (v := 2) bd_132_283 (by decide)) ?_
  refine Eq.trans (be_iadd bd_132_284) ?_
  refine Eq.trans (be_saload bd_132_285) ?_
  refine bn_if_c rfl ?_
  refine Eq.trans (be_virtI (as := [.int (h.1.2 (a3 + 2).toNatClampNeg), .int (h.1.2 (a3 + 1).toNatClampNeg)]) (rr := []) (en := [some (.ref a1), some (.int (h.1.2 (a3 + 1).toNatClampNeg)), some (.int (h.1.2 (a3 + 2).toNatClampNeg))]) bd_132_286 bm_4_38 rfl rfl rfl ⟨Nat.le_of_ble_eq_true rfl, Nat.le_of_ble_eq_true rfl, Nat.le_of_ble_eq_true rfl, Nat.le_of_ble_eq_true rfl⟩ (Or.inl rfl)) ?_
  refine bn_gd_c (bn_cI_c fun x2 h1 => ?_)
  refine Eq.trans (be_aload_n bd_132_289 rfl) ?_
  refine Eq.trans (be_sload_n bd_132_290 rfl) ?_
  refine Eq.trans (be_iload_n bd_132_291 rfl) ?_
  refine Eq.trans (be_iconst (v := 1) bd_132_292 (by decide)) ?_
  refine Eq.trans (be_iadd bd_132_293) ?_
  refine Eq.trans (be_saload bd_132_294) ?_
  refine bn_if_c rfl ?_
  refine Eq.trans (be_sload_n bd_132_295 rfl) ?_
  refine Eq.trans (be_iload_n bd_132_296 rfl) ?_
  refine Eq.trans (be_iconst (v := 2) bd_132_297 (by decide)) ?_
  refine Eq.trans (be_iadd bd_132_298) ?_
  refine Eq.trans (be_saload bd_132_299) ?_
  refine bn_if_c rfl ?_
  refine Eq.trans (be_virtI (as := [.int (h1.1.2 (a3 + 2).toNatClampNeg), .int (h1.1.2 (a3 + 1).toNatClampNeg)]) (rr := [.int x2]) (en := [some (.ref a2), some (.int (h1.1.2 (a3 + 1).toNatClampNeg)), some (.int (h1.1.2 (a3 + 2).toNatClampNeg))]) bd_132_300 bm_4_41 rfl rfl rfl ⟨Nat.le_of_ble_eq_true rfl, Nat.le_of_ble_eq_true rfl, Nat.le_of_ble_eq_true rfl, Nat.le_of_ble_eq_true rfl⟩ (Or.inl rfl)) ?_
  refine bn_gd_c (bn_cI_c fun x4 h3 => ?_)
  refine Eq.trans (be_icmp_eq (t := 773) bd_132_303 rfl) ?_
  refine bn_if_c ?_ ?_
  · rfl
  · refine Eq.trans (be_iconst (v := 0) bd_132_306 (by decide)) ?_
    exact be_z0 bd_132_307 rfl (Or.inl rfl)
theorem bs_L_law_308 (a1 : Nat) (a2 : Nat) (a3 : Int32) (h : bn_H) : bn_ev 132 308 [some (.retAddr 0), some (.ref a1), some (.ref a2), some (.int a3)] [] h = if (a3 + 1) < 0 ∨ h.1.1 ≤ (a3 + 1).toNatClampNeg then none else (if (a3 + 2) < 0 ∨ h.1.1 ≤ (a3 + 2).toNatClampNeg then none else (bn_gd (bn_isC h a1 2) (bn_cI (bn_ev 52 0 [some (.ref a1), some (.int (h.1.2 (a3 + 1).toNatClampNeg)), some (.int (h.1.2 (a3 + 2).toNatClampNeg))] [] h) (fun x2 h1 => if (a3 + 1) < 0 ∨ h1.1.1 ≤ (a3 + 1).toNatClampNeg then none else (if (a3 + 2) < 0 ∨ h1.1.1 ≤ (a3 + 2).toNatClampNeg then none else (bn_gd (bn_isC h1 a2 3) (bn_cI (bn_ev 96 0 [some (.ref a2), some (.int (h1.1.2 (a3 + 1).toNatClampNeg)), some (.int (h1.1.2 (a3 + 2).toNatClampNeg))] [] h1) (fun x4 h3 => if x2 = x4 then (bn_ev 132 773 [some (.retAddr 0), some (.ref a1), some (.ref a2), some (.int a3)] [] h3) else (some (some (.int 0), h3)))))))))) := by
  refine Eq.trans (be_aload_n bd_132_308 rfl) ?_
  refine Eq.trans (be_sload_n bd_132_309 rfl) ?_
  refine Eq.trans (be_iload_n bd_132_310 rfl) ?_
  refine Eq.trans (be_iconst (v := 1) bd_132_311 (by decide)) ?_
  refine Eq.trans (be_iadd bd_132_312) ?_
  refine Eq.trans (be_saload bd_132_313) ?_
  refine bn_if_c rfl ?_
  refine Eq.trans (be_sload_n bd_132_314 rfl) ?_
  refine Eq.trans (be_iload_n bd_132_315 rfl) ?_
  refine Eq.trans (be_iconst (v := 2) bd_132_316 (by decide)) ?_
  refine Eq.trans (be_iadd bd_132_317) ?_
  refine Eq.trans (be_saload bd_132_318) ?_
  refine bn_if_c rfl ?_
  refine Eq.trans (be_virtI (as := [.int (h.1.2 (a3 + 2).toNatClampNeg), .int (h.1.2 (a3 + 1).toNatClampNeg)]) (rr := []) (en := [some (.ref a1), some (.int (h.1.2 (a3 + 1).toNatClampNeg)), some (.int (h.1.2 (a3 + 2).toNatClampNeg))]) bd_132_319 bm_4_42 rfl rfl rfl ⟨Nat.le_of_ble_eq_true rfl, Nat.le_of_ble_eq_true rfl, Nat.le_of_ble_eq_true rfl, Nat.le_of_ble_eq_true rfl⟩ (Or.inl rfl)) ?_
  refine bn_gd_c (bn_cI_c fun x2 h1 => ?_)
  refine Eq.trans (be_aload_n bd_132_322 rfl) ?_
  refine Eq.trans (be_sload_n bd_132_323 rfl) ?_
  refine Eq.trans (be_iload_n bd_132_324 rfl) ?_
  refine Eq.trans (be_iconst (v := 1) bd_132_325 (by decide)) ?_
  refine Eq.trans (be_iadd bd_132_326) ?_
  refine Eq.trans (be_saload bd_132_327) ?_
  refine bn_if_c rfl ?_
  refine Eq.trans (be_sload_n bd_132_328 rfl) ?_
  refine Eq.trans (be_iload_n bd_132_329 rfl) ?_
  refine Eq.trans (be_iconst (v := 2) bd_132_330 (by decide)) ?_
  refine Eq.trans (be_iadd bd_132_331) ?_
  refine Eq.trans (be_saload bd_132_332) ?_
  refine bn_if_c rfl ?_
  refine Eq.trans (be_virtI (as := [.int (h1.1.2 (a3 + 2).toNatClampNeg), .int (h1.1.2 (a3 + 1).toNatClampNeg)]) (rr := [.int x2]) (en := [some (.ref a2), some (.int (h1.1.2 (a3 + 1).toNatClampNeg)), some (.int (h1.1.2 (a3 + 2).toNatClampNeg))]) bd_132_333 bm_4_45 rfl rfl rfl ⟨Nat.le_of_ble_eq_true rfl, Nat.le_of_ble_eq_true rfl, Nat.le_of_ble_eq_true rfl, Nat.le_of_ble_eq_true rfl⟩ (Or.inl rfl)) ?_
  refine bn_gd_c (bn_cI_c fun x4 h3 => ?_)
  refine Eq.trans (be_icmp_eq (t := 773) bd_132_336 rfl) ?_
  refine bn_if_c ?_ ?_
  · rfl
  · refine Eq.trans (be_iconst (v := 0) bd_132_339 (by decide)) ?_
    exact be_z0 bd_132_340 rfl (Or.inl rfl)
theorem bs_L_law_341 (a1 : Nat) (a2 : Nat) (a3 : Int32) (h : bn_H) : bn_ev 132 341 [some (.retAddr 0), some (.ref a1), some (.ref a2), some (.int a3)] [] h = if (a3 + 1) < 0 ∨ h.1.1 ≤ (a3 + 1).toNatClampNeg then none else (if (a3 + 2) < 0 ∨ h.1.1 ≤ (a3 + 2).toNatClampNeg then none else (bn_gd (bn_isC h a1 2) (bn_cI (bn_ev 53 0 [some (.ref a1), some (.int (h.1.2 (a3 + 1).toNatClampNeg)), some (.int (h.1.2 (a3 + 2).toNatClampNeg))] [] h) (fun x2 h1 => if (a3 + 1) < 0 ∨ h1.1.1 ≤ (a3 + 1).toNatClampNeg then none else (if (a3 + 2) < 0 ∨ h1.1.1 ≤ (a3 + 2).toNatClampNeg then none else (bn_gd (bn_isC h1 a2 3) (bn_cI (bn_ev 98 0 [some (.ref a2), some (.int (h1.1.2 (a3 + 1).toNatClampNeg)), some (.int (h1.1.2 (a3 + 2).toNatClampNeg))] [] h1) (fun x4 h3 => if x2 = x4 then (bn_ev 132 773 [some (.retAddr 0), some (.ref a1), some (.ref a2), some (.int a3)] [] h3) else (some (some (.int 0), h3)))))))))) := by
  refine Eq.trans (be_aload_n bd_132_341 rfl) ?_
  refine Eq.trans (be_sload_n bd_132_342 rfl) ?_
  refine Eq.trans (be_iload_n bd_132_343 rfl) ?_
  refine Eq.trans (be_iconst (v := 1) bd_132_344 (by decide)) ?_
  refine Eq.trans (be_iadd bd_132_345) ?_
  refine Eq.trans (be_saload bd_132_346) ?_
  refine bn_if_c rfl ?_
  refine Eq.trans (be_sload_n bd_132_347 rfl) ?_
  refine Eq.trans (be_iload_n bd_132_348 rfl) ?_
  refine Eq.trans (be_iconst (v := 2) bd_132_349 (by decide)) ?_
  refine Eq.trans (be_iadd bd_132_350) ?_
  refine Eq.trans (be_saload bd_132_351) ?_
  refine bn_if_c rfl ?_
  refine Eq.trans (be_virtI (as := [.int (h.1.2 (a3 + 2).toNatClampNeg), .int (h.1.2 (a3 + 1).toNatClampNeg)]) (rr := []) (en := [some (.ref a1), some (.int (h.1.2 (a3 + 1).toNatClampNeg)), some (.int (h.1.2 (a3 + 2).toNatClampNeg))]) bd_132_352 bm_4_46 rfl rfl rfl ⟨Nat.le_of_ble_eq_true rfl, Nat.le_of_ble_eq_true rfl, Nat.le_of_ble_eq_true rfl, Nat.le_of_ble_eq_true rfl⟩ (Or.inl rfl)) ?_
  refine bn_gd_c (bn_cI_c fun x2 h1 => ?_)
  refine Eq.trans (be_aload_n bd_132_355 rfl) ?_
  refine Eq.trans (be_sload_n bd_132_356 rfl) ?_
  refine Eq.trans (be_iload_n bd_132_357 rfl) ?_
  refine Eq.trans (be_iconst (v := 1) bd_132_358 (by decide)) ?_
  refine Eq.trans (be_iadd bd_132_359) ?_
  refine Eq.trans (be_saload bd_132_360) ?_
  refine bn_if_c rfl ?_
  refine Eq.trans (be_sload_n bd_132_361 rfl) ?_
  refine Eq.trans (be_iload_n bd_132_362 rfl) ?_
  refine Eq.trans (be_iconst (v := 2) bd_132_363 (by decide)) ?_
  refine Eq.trans (be_iadd bd_132_364) ?_
  refine Eq.trans (be_saload bd_132_365) ?_
  refine bn_if_c rfl ?_
  refine Eq.trans (be_virtI (as := [.int (h1.1.2 (a3 + 2).toNatClampNeg), .int (h1.1.2 (a3 + 1).toNatClampNeg)]) (rr := [.int x2]) (en := [some (.ref a2), some (.int (h1.1.2 (a3 + 1).toNatClampNeg)), some (.int (h1.1.2 (a3 + 2).toNatClampNeg))]) bd_132_366 bm_4_49 rfl rfl rfl ⟨Nat.le_of_ble_eq_true rfl, Nat.le_of_ble_eq_true rfl, Nat.le_of_ble_eq_true rfl, Nat.le_of_ble_eq_true rfl⟩ (Or.inl rfl)) ?_
  refine bn_gd_c (bn_cI_c fun x4 h3 => ?_)
  refine Eq.trans (be_icmp_eq (t := 773) bd_132_369 rfl) ?_
  refine bn_if_c ?_ ?_
  · rfl
  · refine Eq.trans (be_iconst (v := 0) bd_132_372 (by decide)) ?_
    exact be_z0 bd_132_373 rfl (Or.inl rfl)
theorem bs_L_law_374 (a1 : Nat) (a2 : Nat) (a3 : Int32) (h : bn_H) : bn_ev 132 374 [some (.retAddr 0), some (.ref a1), some (.ref a2), some (.int a3)] [] h = if (a3 + 1) < 0 ∨ h.1.1 ≤ (a3 + 1).toNatClampNeg then none else (if (a3 + 2) < 0 ∨ h.1.1 ≤ (a3 + 2).toNatClampNeg then none else (bn_gd (bn_isC h a1 2) (bn_cI (bn_ev 54 0 [some (.ref a1), some (.int (h.1.2 (a3 + 1).toNatClampNeg)), some (.int (h.1.2 (a3 + 2).toNatClampNeg)), none] [] h) (fun x2 h1 => if (a3 + 1) < 0 ∨ h1.1.1 ≤ (a3 + 1).toNatClampNeg then none else (if (a3 + 2) < 0 ∨ h1.1.1 ≤ (a3 + 2).toNatClampNeg then none else (bn_gd (bn_isC h1 a2 3) (bn_cI (bn_ev 99 0 [some (.ref a2), some (.int (h1.1.2 (a3 + 1).toNatClampNeg)), some (.int (h1.1.2 (a3 + 2).toNatClampNeg)), none] [] h1) (fun x4 h3 => if x2 = x4 then (bn_ev 132 773 [some (.retAddr 0), some (.ref a1), some (.ref a2), some (.int a3)] [] h3) else (some (some (.int 0), h3)))))))))) := by
  refine Eq.trans (be_aload_n bd_132_374 rfl) ?_
  refine Eq.trans (be_sload_n bd_132_375 rfl) ?_
  refine Eq.trans (be_iload_n bd_132_376 rfl) ?_
  refine Eq.trans (be_iconst (v := 1) bd_132_377 (by decide)) ?_
  refine Eq.trans (be_iadd bd_132_378) ?_
  refine Eq.trans (be_saload bd_132_379) ?_
  refine bn_if_c rfl ?_
  refine Eq.trans (be_sload_n bd_132_380 rfl) ?_
  refine Eq.trans (be_iload_n bd_132_381 rfl) ?_
  refine Eq.trans (be_iconst (v := 2) bd_132_382 (by decide)) ?_
  refine Eq.trans (be_iadd bd_132_383) ?_
  refine Eq.trans (be_saload bd_132_384) ?_
  refine bn_if_c rfl ?_
  refine Eq.trans (be_virtI (as := [.int (h.1.2 (a3 + 2).toNatClampNeg), .int (h.1.2 (a3 + 1).toNatClampNeg)]) (rr := []) (en := [some (.ref a1), some (.int (h.1.2 (a3 + 1).toNatClampNeg)), some (.int (h.1.2 (a3 + 2).toNatClampNeg)), none]) bd_132_385 bm_4_50 rfl rfl rfl ⟨Nat.le_of_ble_eq_true rfl, Nat.le_of_ble_eq_true rfl, Nat.le_of_ble_eq_true rfl, Nat.le_of_ble_eq_true rfl⟩ (Or.inl rfl)) ?_
  refine bn_gd_c (bn_cI_c fun x2 h1 => ?_)
  refine Eq.trans (be_aload_n bd_132_388 rfl) ?_
  refine Eq.trans (be_sload_n bd_132_389 rfl) ?_
  refine Eq.trans (be_iload_n bd_132_390 rfl) ?_
  refine Eq.trans (be_iconst (v := 1) bd_132_391 (by decide)) ?_
  refine Eq.trans (be_iadd bd_132_392) ?_
  refine Eq.trans (be_saload bd_132_393) ?_
  refine bn_if_c rfl ?_
  refine Eq.trans (be_sload_n bd_132_394 rfl) ?_
  refine Eq.trans (be_iload_n bd_132_395 rfl) ?_
  refine Eq.trans (be_iconst (v := 2) bd_132_396 (by decide)) ?_
  refine Eq.trans (be_iadd bd_132_397) ?_
  refine Eq.trans (be_saload bd_132_398) ?_
  refine bn_if_c rfl ?_
  refine Eq.trans (be_virtI (as := [.int (h1.1.2 (a3 + 2).toNatClampNeg), .int (h1.1.2 (a3 + 1).toNatClampNeg)]) (rr := [.int x2]) (en := [some (.ref a2), some (.int (h1.1.2 (a3 + 1).toNatClampNeg)), some (.int (h1.1.2 (a3 + 2).toNatClampNeg)), none]) bd_132_399 bm_4_53 rfl rfl rfl ⟨Nat.le_of_ble_eq_true rfl, Nat.le_of_ble_eq_true rfl, Nat.le_of_ble_eq_true rfl, Nat.le_of_ble_eq_true rfl⟩ (Or.inl rfl)) ?_
  refine bn_gd_c (bn_cI_c fun x4 h3 => ?_)
  refine Eq.trans (be_icmp_eq (t := 773) bd_132_402 rfl) ?_
  refine bn_if_c ?_ ?_
  · rfl
  · refine Eq.trans (be_iconst (v := 0) bd_132_405 (by decide)) ?_
    exact be_z0 bd_132_406 rfl (Or.inl rfl)
theorem bs_L_law_407 (a1 : Nat) (a2 : Nat) (a3 : Int32) (h : bn_H) : bn_ev 132 407 [some (.retAddr 0), some (.ref a1), some (.ref a2), some (.int a3)] [] h = if (a3 + 1) < 0 ∨ h.1.1 ≤ (a3 + 1).toNatClampNeg then none else (bn_gd (bn_isC h a1 2) (bn_cI (bn_ev 55 0 [some (.ref a1), some (.int (h.1.2 (a3 + 1).toNatClampNeg))] [] h) (fun x2 h1 => if (a3 + 1) < 0 ∨ h1.1.1 ≤ (a3 + 1).toNatClampNeg then none else (bn_gd (bn_isC h1 a2 3) (bn_cI (bn_ev 101 0 [some (.ref a2), some (.int (h1.1.2 (a3 + 1).toNatClampNeg))] [] h1) (fun x4 h3 => if x2 = x4 then (bn_ev 132 773 [some (.retAddr 0), some (.ref a1), some (.ref a2), some (.int a3)] [] h3) else (some (some (.int 0), h3)))))))) := by
  refine Eq.trans (be_aload_n bd_132_407 rfl) ?_
  refine Eq.trans (be_sload_n bd_132_408 rfl) ?_
  refine Eq.trans (be_iload_n bd_132_409 rfl) ?_
  refine Eq.trans (be_iconst (v := 1) bd_132_410 (by decide)) ?_
  refine Eq.trans (be_iadd bd_132_411) ?_
  refine Eq.trans (be_saload bd_132_412) ?_
  refine bn_if_c rfl ?_
  refine Eq.trans (be_virtI (as := [.int (h.1.2 (a3 + 1).toNatClampNeg)]) (rr := []) (en := [some (.ref a1), some (.int (h.1.2 (a3 + 1).toNatClampNeg))]) bd_132_413 bm_4_54 rfl rfl rfl ⟨Nat.le_of_ble_eq_true rfl, Nat.le_of_ble_eq_true rfl, Nat.le_of_ble_eq_true rfl, Nat.le_of_ble_eq_true rfl⟩ (Or.inl rfl)) ?_
  refine bn_gd_c (bn_cI_c fun x2 h1 => ?_)
  refine Eq.trans (be_aload_n bd_132_416 rfl) ?_
  refine Eq.trans (be_sload_n bd_132_417 rfl) ?_
  refine Eq.trans (be_iload_n bd_132_418 rfl) ?_
  refine Eq.trans (be_iconst (v := 1) bd_132_419 (by decide)) ?_
  refine Eq.trans (be_iadd bd_132_420) ?_
  refine Eq.trans (be_saload bd_132_421) ?_
  refine bn_if_c rfl ?_
  refine Eq.trans (be_virtI (as := [.int (h1.1.2 (a3 + 1).toNatClampNeg)]) (rr := [.int x2]) (en := [some (.ref a2), some (.int (h1.1.2 (a3 + 1).toNatClampNeg))]) bd_132_422 bm_4_58 rfl rfl rfl ⟨Nat.le_of_ble_eq_true rfl, Nat.le_of_ble_eq_true rfl, Nat.le_of_ble_eq_true rfl, Nat.le_of_ble_eq_true rfl⟩ (Or.inl rfl)) ?_
  refine bn_gd_c (bn_cI_c fun x4 h3 => ?_)
  refine Eq.trans (be_icmp_eq (t := 773) bd_132_425 rfl) ?_
  refine bn_if_c ?_ ?_
  · rfl
  · refine Eq.trans (be_iconst (v := 0) bd_132_428 (by decide)) ?_
    exact be_z0 bd_132_429 rfl (Or.inl rfl)
theorem bs_L_law_430 (a1 : Nat) (a2 : Nat) (a3 : Int32) (h : bn_H) : bn_ev 132 430 [some (.retAddr 0), some (.ref a1), some (.ref a2), some (.int a3)] [] h = bn_gd (bn_isC h a1 2) (bn_cI (bn_ev 56 0 [some (.ref a1)] [] h) (fun x2 h1 => bn_gd (bn_isC h1 a2 3) (bn_cI (bn_ev 103 0 [some (.ref a2)] [] h1) (fun x4 h3 => if x2 = x4 then (bn_ev 132 773 [some (.retAddr 0), some (.ref a1), some (.ref a2), some (.int a3)] [] h3) else (some (some (.int 0), h3)))))) := by
  refine Eq.trans (be_aload_n bd_132_430 rfl) ?_
  refine Eq.trans (be_virtI (as := []) (rr := []) (en := [some (.ref a1)]) bd_132_431 bm_4_59 rfl rfl rfl ⟨Nat.le_of_ble_eq_true rfl, Nat.le_of_ble_eq_true rfl, Nat.le_of_ble_eq_true rfl, Nat.le_of_ble_eq_true rfl⟩ (Or.inl rfl)) ?_
  refine bn_gd_c (bn_cI_c fun x2 h1 => ?_)
  refine Eq.trans (be_aload_n bd_132_434 rfl) ?_
  refine Eq.trans (be_virtI (as := []) (rr := [.int x2]) (en := [some (.ref a2)]) bd_132_435 bm_4_62 rfl rfl rfl ⟨Nat.le_of_ble_eq_true rfl, Nat.le_of_ble_eq_true rfl, Nat.le_of_ble_eq_true rfl, Nat.le_of_ble_eq_true rfl⟩ (Or.inl rfl)) ?_
  refine bn_gd_c (bn_cI_c fun x4 h3 => ?_)
  refine Eq.trans (be_icmp_eq (t := 773) bd_132_438 rfl) ?_
  refine bn_if_c ?_ ?_
  · rfl
  · refine Eq.trans (be_iconst (v := 0) bd_132_441 (by decide)) ?_
    exact be_z0 bd_132_442 rfl (Or.inl rfl)
theorem bs_L_law_443 (a1 : Nat) (a2 : Nat) (a3 : Int32) (h : bn_H) : bn_ev 132 443 [some (.retAddr 0), some (.ref a1), some (.ref a2), some (.int a3)] [] h = bn_gd (bn_isC h a1 2) (bn_cI (bn_ev 57 0 [some (.ref a1), none, none, none, none, none] [] h) (fun x2 h1 => bn_gd (bn_isC h1 a2 3) (bn_cI (bn_ev 107 0 [some (.ref a2), none, none, none, none, none] [] h1) (fun x4 h3 => if x2 = x4 then (bn_ev 132 773 [some (.retAddr 0), some (.ref a1), some (.ref a2), some (.int a3)] [] h3) else (some (some (.int 0), h3)))))) := by
  refine Eq.trans (be_aload_n bd_132_443 rfl) ?_
  refine Eq.trans (be_virtI (as := []) (rr := []) (en := [some (.ref a1), none, none, none, none, none]) bd_132_444 bm_4_63 rfl rfl rfl ⟨Nat.le_of_ble_eq_true rfl, Nat.le_of_ble_eq_true rfl, Nat.le_of_ble_eq_true rfl, Nat.le_of_ble_eq_true rfl⟩ (Or.inl rfl)) ?_
  refine bn_gd_c (bn_cI_c fun x2 h1 => ?_)
  refine Eq.trans (be_aload_n bd_132_447 rfl) ?_
  refine Eq.trans (be_virtI (as := []) (rr := [.int x2]) (en := [some (.ref a2), none, none, none, none, none]) bd_132_448 bm_4_66 rfl rfl rfl ⟨Nat.le_of_ble_eq_true rfl, Nat.le_of_ble_eq_true rfl, Nat.le_of_ble_eq_true rfl, Nat.le_of_ble_eq_true rfl⟩ (Or.inl rfl)) ?_
  refine bn_gd_c (bn_cI_c fun x4 h3 => ?_)
  refine Eq.trans (be_icmp_eq (t := 773) bd_132_451 rfl) ?_
  refine bn_if_c ?_ ?_
  · rfl
  · refine Eq.trans (be_iconst (v := 0) bd_132_454 (by decide)) ?_
    exact be_z0 bd_132_455 rfl (Or.inl rfl)
theorem bs_L_law_456 (a1 : Nat) (a2 : Nat) (a3 : Int32) (h : bn_H) : bn_ev 132 456 [some (.retAddr 0), some (.ref a1), some (.ref a2), some (.int a3)] [] h = bn_gd (bn_isC h a1 2) (bn_cI (bn_ev 58 0 [some (.ref a1)] [] h) (fun x2 h1 => bn_gd (bn_isC h1 a2 3) (bn_cI (bn_ev 108 0 [some (.ref a2), none] [] h1) (fun x4 h3 => if x2 = x4 then (bn_ev 132 773 [some (.retAddr 0), some (.ref a1), some (.ref a2), some (.int a3)] [] h3) else (some (some (.int 0), h3)))))) := by
  refine Eq.trans (be_aload_n bd_132_456 rfl) ?_
  refine Eq.trans (be_virtI (as := []) (rr := []) (en := [some (.ref a1)]) bd_132_457 bm_4_67 rfl rfl rfl ⟨Nat.le_of_ble_eq_true rfl, Nat.le_of_ble_eq_true rfl, Nat.le_of_ble_eq_true rfl, Nat.le_of_ble_eq_true rfl⟩ (Or.inl rfl)) ?_
  refine bn_gd_c (bn_cI_c fun x2 h1 => ?_)
  refine Eq.trans (be_aload_n bd_132_460 rfl) ?_
  refine Eq.trans (be_virtI (as := []) (rr := [.int x2]) (en := [some (.ref a2), none]) bd_132_461 bm_4_70 rfl rfl rfl ⟨Nat.le_of_ble_eq_true rfl, Nat.le_of_ble_eq_true rfl, Nat.le_of_ble_eq_true rfl, Nat.le_of_ble_eq_true rfl⟩ (Or.inl rfl)) ?_
  refine bn_gd_c (bn_cI_c fun x4 h3 => ?_)
  refine Eq.trans (be_icmp_eq (t := 773) bd_132_464 rfl) ?_
  refine bn_if_c ?_ ?_
  · rfl
  · refine Eq.trans (be_iconst (v := 0) bd_132_467 (by decide)) ?_
    exact be_z0 bd_132_468 rfl (Or.inl rfl)
theorem bs_L_law_469 (a1 : Nat) (a2 : Nat) (a3 : Int32) (h : bn_H) : bn_ev 132 469 [some (.retAddr 0), some (.ref a1), some (.ref a2), some (.int a3)] [] h = if (a3 + 1) < 0 ∨ h.1.1 ≤ (a3 + 1).toNatClampNeg then none else (if (a3 + 2) < 0 ∨ h.1.1 ≤ (a3 + 2).toNatClampNeg then none else (bn_gd (bn_isC h a1 2) (bn_cJ (bn_ev 59 0 [some (.ref a1), some (.long ((bn_lshl ((h.1.2 (a3 + 1).toNatClampNeg).toInt64) 32) ||| (((h.1.2 (a3 + 2).toNatClampNeg).toInt64) &&& 4294967295))), none, none, none] [] h) (fun y2 h1 => if (a3 + 1) < 0 ∨ h1.1.1 ≤ (a3 + 1).toNatClampNeg then none else (if (a3 + 2) < 0 ∨ h1.1.1 ≤ (a3 + 2).toNatClampNeg then none else (bn_gd (bn_isC h1 a2 3) (bn_cJ (bn_ev 109 0 [some (.ref a2), some (.long ((bn_lshl ((h1.1.2 (a3 + 1).toNatClampNeg).toInt64) 32) ||| (((h1.1.2 (a3 + 2).toNatClampNeg).toInt64) &&& 4294967295))), none, none, none] [] h1) (fun y4 h3 => if (lg_cmp y2 y4) = 0 then (bn_ev 132 773 [some (.retAddr 0), some (.ref a1), some (.ref a2), some (.int a3)] [] h3) else (some (some (.int 0), h3)))))))))) := by
  refine Eq.trans (be_aload_n bd_132_469 rfl) ?_
  refine Eq.trans (be_sload_n bd_132_470 rfl) ?_
  refine Eq.trans (be_iload_n bd_132_471 rfl) ?_
  refine Eq.trans (be_iconst (v := 1) bd_132_472 (by decide)) ?_
  refine Eq.trans (be_iadd bd_132_473) ?_
  refine Eq.trans (be_saload bd_132_474) ?_
  refine bn_if_c rfl ?_
  refine Eq.trans (be_i2l bd_132_475) ?_
  refine Eq.trans (be_bipush (v := 32) bd_132_476 (by decide)) ?_
  refine Eq.trans (be_lshl bd_132_478) ?_
  refine Eq.trans (be_sload_n bd_132_479 rfl) ?_
  refine Eq.trans (be_iload_n bd_132_480 rfl) ?_
  refine Eq.trans (be_iconst (v := 2) bd_132_481 (by decide)) ?_
  refine Eq.trans (be_iadd bd_132_482) ?_
  refine Eq.trans (be_saload bd_132_483) ?_
  refine bn_if_c rfl ?_
  refine Eq.trans (be_i2l bd_132_484) ?_
  refine Eq.trans (be_ldc2w (v := 4294967295) bd_132_485 rfl) ?_
  refine Eq.trans (be_land bd_132_488) ?_
  refine Eq.trans (be_lor bd_132_489) ?_
  refine Eq.trans (be_virtJ (as := [.long ((bn_lshl ((h.1.2 (a3 + 1).toNatClampNeg).toInt64) 32) ||| (((h.1.2 (a3 + 2).toNatClampNeg).toInt64) &&& 4294967295))]) (rr := []) (en := [some (.ref a1), some (.long ((bn_lshl ((h.1.2 (a3 + 1).toNatClampNeg).toInt64) 32) ||| (((h.1.2 (a3 + 2).toNatClampNeg).toInt64) &&& 4294967295))), none, none, none]) bd_132_490 bm_4_71 rfl rfl rfl ⟨Nat.le_of_ble_eq_true rfl, Nat.le_of_ble_eq_true rfl, Nat.le_of_ble_eq_true rfl, Nat.le_of_ble_eq_true rfl⟩ rfl) ?_
  refine bn_gd_c (bn_cJ_c fun y2 h1 => ?_)
  refine Eq.trans (be_aload_n bd_132_493 rfl) ?_
  refine Eq.trans (be_sload_n bd_132_494 rfl) ?_
  refine Eq.trans (be_iload_n bd_132_495 rfl) ?_
  refine Eq.trans (be_iconst (v := 1) bd_132_496 (by decide)) ?_
  refine Eq.trans (be_iadd bd_132_497) ?_
  refine Eq.trans (be_saload bd_132_498) ?_
  refine bn_if_c rfl ?_
  refine Eq.trans (be_i2l bd_132_499) ?_
  refine Eq.trans (be_bipush (v := 32) bd_132_500 (by decide)) ?_
  refine Eq.trans (be_lshl bd_132_502) ?_
  refine Eq.trans (be_sload_n bd_132_503 rfl) ?_
  refine Eq.trans (be_iload_n bd_132_504 rfl) ?_
  refine Eq.trans (be_iconst (v := 2) bd_132_505 (by decide)) ?_
  refine Eq.trans (be_iadd bd_132_506) ?_
  refine Eq.trans (be_saload bd_132_507) ?_
  refine bn_if_c rfl ?_
  refine Eq.trans (be_i2l bd_132_508) ?_
  refine Eq.trans (be_ldc2w (v := 4294967295) bd_132_509 rfl) ?_
  refine Eq.trans (be_land bd_132_512) ?_
  refine Eq.trans (be_lor bd_132_513) ?_
  refine Eq.trans (be_virtJ (as := [.long ((bn_lshl ((h1.1.2 (a3 + 1).toNatClampNeg).toInt64) 32) ||| (((h1.1.2 (a3 + 2).toNatClampNeg).toInt64) &&& 4294967295))]) (rr := [.long y2]) (en := [some (.ref a2), some (.long ((bn_lshl ((h1.1.2 (a3 + 1).toNatClampNeg).toInt64) 32) ||| (((h1.1.2 (a3 + 2).toNatClampNeg).toInt64) &&& 4294967295))), none, none, none]) bd_132_514 bm_4_75 rfl rfl rfl ⟨Nat.le_of_ble_eq_true rfl, Nat.le_of_ble_eq_true rfl, Nat.le_of_ble_eq_true rfl, Nat.le_of_ble_eq_true rfl⟩ rfl) ?_
  refine bn_gd_c (bn_cJ_c fun y4 h3 => ?_)
  refine Eq.trans (be_lcmp bd_132_517) ?_
  refine Eq.trans (be_if_eq (t := 773) bd_132_518 rfl) ?_
  refine bn_if_c ?_ ?_
  · rfl
  · refine Eq.trans (be_iconst (v := 0) bd_132_521 (by decide)) ?_
    exact be_z0 bd_132_522 rfl (Or.inl rfl)
theorem bs_L_law_523 (a1 : Nat) (a2 : Nat) (a3 : Int32) (h : bn_H) : bn_ev 132 523 [some (.retAddr 0), some (.ref a1), some (.ref a2), some (.int a3)] [] h = bn_gd (bn_isC h a1 2) (bn_cI (bn_ev 60 0 [some (.ref a1)] [] h) (fun x2 h1 => bn_gd (bn_isC h1 a2 3) (bn_cI (bn_ev 112 0 [some (.ref a2)] [] h1) (fun x4 h3 => if x2 = x4 then (bn_ev 132 773 [some (.retAddr 0), some (.ref a1), some (.ref a2), some (.int a3)] [] h3) else (some (some (.int 0), h3)))))) := by
  refine Eq.trans (be_aload_n bd_132_523 rfl) ?_
  refine Eq.trans (be_virtI (as := []) (rr := []) (en := [some (.ref a1)]) bd_132_524 bm_4_76 rfl rfl rfl ⟨Nat.le_of_ble_eq_true rfl, Nat.le_of_ble_eq_true rfl, Nat.le_of_ble_eq_true rfl, Nat.le_of_ble_eq_true rfl⟩ (Or.inl rfl)) ?_
  refine bn_gd_c (bn_cI_c fun x2 h1 => ?_)
  refine Eq.trans (be_aload_n bd_132_527 rfl) ?_
  refine Eq.trans (be_virtI (as := []) (rr := [.int x2]) (en := [some (.ref a2)]) bd_132_528 bm_4_79 rfl rfl rfl ⟨Nat.le_of_ble_eq_true rfl, Nat.le_of_ble_eq_true rfl, Nat.le_of_ble_eq_true rfl, Nat.le_of_ble_eq_true rfl⟩ (Or.inl rfl)) ?_
  refine bn_gd_c (bn_cI_c fun x4 h3 => ?_)
  refine Eq.trans (be_icmp_eq (t := 773) bd_132_531 rfl) ?_
  refine bn_if_c ?_ ?_
  · rfl
  · refine Eq.trans (be_iconst (v := 0) bd_132_534 (by decide)) ?_
    exact be_z0 bd_132_535 rfl (Or.inl rfl)
theorem bs_L_law_536 (a1 : Nat) (a2 : Nat) (a3 : Int32) (h : bn_H) : bn_ev 132 536 [some (.retAddr 0), some (.ref a1), some (.ref a2), some (.int a3)] [] h = bn_gd (bn_isC h a1 2) (bn_cI (bn_ev 61 0 [some (.ref a1), none] [] h) (fun x2 h1 => bn_gd (bn_isC h1 a2 3) (bn_cI (bn_ev 113 0 [some (.ref a2)] [] h1) (fun x4 h3 => if x2 = x4 then (bn_ev 132 773 [some (.retAddr 0), some (.ref a1), some (.ref a2), some (.int a3)] [] h3) else (some (some (.int 0), h3)))))) := by
  refine Eq.trans (be_aload_n bd_132_536 rfl) ?_
  refine Eq.trans (be_virtI (as := []) (rr := []) (en := [some (.ref a1), none]) bd_132_537 bm_4_80 rfl rfl rfl ⟨Nat.le_of_ble_eq_true rfl, Nat.le_of_ble_eq_true rfl, Nat.le_of_ble_eq_true rfl, Nat.le_of_ble_eq_true rfl⟩ (Or.inl rfl)) ?_
  refine bn_gd_c (bn_cI_c fun x2 h1 => ?_)
  refine Eq.trans (be_aload_n bd_132_540 rfl) ?_
  refine Eq.trans (be_virtI (as := []) (rr := [.int x2]) (en := [some (.ref a2)]) bd_132_541 bm_4_83 rfl rfl rfl ⟨Nat.le_of_ble_eq_true rfl, Nat.le_of_ble_eq_true rfl, Nat.le_of_ble_eq_true rfl, Nat.le_of_ble_eq_true rfl⟩ (Or.inl rfl)) ?_
  refine bn_gd_c (bn_cI_c fun x4 h3 => ?_)
  refine Eq.trans (be_icmp_eq (t := 773) bd_132_544 rfl) ?_
  refine bn_if_c ?_ ?_
  · rfl
  · refine Eq.trans (be_iconst (v := 0) bd_132_547 (by decide)) ?_
    exact be_z0 bd_132_548 rfl (Or.inl rfl)
theorem bs_L_law_549 (a1 : Nat) (a2 : Nat) (a3 : Int32) (h : bn_H) : bn_ev 132 549 [some (.retAddr 0), some (.ref a1), some (.ref a2), some (.int a3)] [] h = bn_gd (bn_isC h a1 2) (bn_cI (bn_ev 62 0 [some (.ref a1), none, none] [] h) (fun x2 h1 => bn_gd (bn_isC h1 a2 3) (bn_cI (bn_ev 117 0 [some (.ref a2), none, none, none, none, none, none, none] [] h1) (fun x4 h3 => if x2 = x4 then (bn_ev 132 773 [some (.retAddr 0), some (.ref a1), some (.ref a2), some (.int a3)] [] h3) else (some (some (.int 0), h3)))))) := by
  refine Eq.trans (be_aload_n bd_132_549 rfl) ?_
  refine Eq.trans (be_virtI (as := []) (rr := []) (en := [some (.ref a1), none, none]) bd_132_550 bm_4_84 rfl rfl rfl ⟨Nat.le_of_ble_eq_true rfl, Nat.le_of_ble_eq_true rfl, Nat.le_of_ble_eq_true rfl, Nat.le_of_ble_eq_true rfl⟩ (Or.inl rfl)) ?_
  refine bn_gd_c (bn_cI_c fun x2 h1 => ?_)
  refine Eq.trans (be_aload_n bd_132_553 rfl) ?_
  refine Eq.trans (be_virtI (as := []) (rr := [.int x2]) (en := [some (.ref a2), none, none, none, none, none, none, none]) bd_132_554 bm_4_87 rfl rfl rfl ⟨Nat.le_of_ble_eq_true rfl, Nat.le_of_ble_eq_true rfl, Nat.le_of_ble_eq_true rfl, Nat.le_of_ble_eq_true rfl⟩ (Or.inl rfl)) ?_
  refine bn_gd_c (bn_cI_c fun x4 h3 => ?_)
  refine Eq.trans (be_icmp_eq (t := 773) bd_132_557 rfl) ?_
  refine bn_if_c ?_ ?_
  · rfl
  · refine Eq.trans (be_iconst (v := 0) bd_132_560 (by decide)) ?_
    exact be_z0 bd_132_561 rfl (Or.inl rfl)
theorem bs_L_law_562 (a1 : Nat) (a2 : Nat) (a3 : Int32) (h : bn_H) : bn_ev 132 562 [some (.retAddr 0), some (.ref a1), some (.ref a2), some (.int a3)] [] h = if (a3 + 1) < 0 ∨ h.1.1 ≤ (a3 + 1).toNatClampNeg then none else (bn_gd (bn_isC h a1 2) (bn_cI (bn_ev 63 0 [some (.ref a1), some (.int (h.1.2 (a3 + 1).toNatClampNeg)), none, none, none] [] h) (fun x2 h1 => if (a3 + 1) < 0 ∨ h1.1.1 ≤ (a3 + 1).toNatClampNeg then none else (bn_gd (bn_isC h1 a2 3) (bn_cI (bn_ev 121 0 [some (.ref a2), some (.int (h1.1.2 (a3 + 1).toNatClampNeg)), none, none] [] h1) (fun x4 h3 => if x2 = x4 then (bn_ev 132 773 [some (.retAddr 0), some (.ref a1), some (.ref a2), some (.int a3)] [] h3) else (some (some (.int 0), h3)))))))) := by
  refine Eq.trans (be_aload_n bd_132_562 rfl) ?_
  refine Eq.trans (be_sload_n bd_132_563 rfl) ?_
  refine Eq.trans (be_iload_n bd_132_564 rfl) ?_
  refine Eq.trans (be_iconst (v := 1) bd_132_565 (by decide)) ?_
  refine Eq.trans (be_iadd bd_132_566) ?_
  refine Eq.trans (be_saload bd_132_567) ?_
  refine bn_if_c rfl ?_
  refine Eq.trans (be_virtI (as := [.int (h.1.2 (a3 + 1).toNatClampNeg)]) (rr := []) (en := [some (.ref a1), some (.int (h.1.2 (a3 + 1).toNatClampNeg)), none, none, none]) bd_132_568 bm_4_88 rfl rfl rfl ⟨Nat.le_of_ble_eq_true rfl, Nat.le_of_ble_eq_true rfl, Nat.le_of_ble_eq_true rfl, Nat.le_of_ble_eq_true rfl⟩ (Or.inl rfl)) ?_
  refine bn_gd_c (bn_cI_c fun x2 h1 => ?_)
  refine Eq.trans (be_aload_n bd_132_571 rfl) ?_
  refine Eq.trans (be_sload_n bd_132_572 rfl) ?_
  refine Eq.trans (be_iload_n bd_132_573 rfl) ?_
  refine Eq.trans (be_iconst (v := 1) bd_132_574 (by decide)) ?_
  refine Eq.trans (be_iadd bd_132_575) ?_
  refine Eq.trans (be_saload bd_132_576) ?_
  refine bn_if_c rfl ?_
  refine Eq.trans (be_virtI (as := [.int (h1.1.2 (a3 + 1).toNatClampNeg)]) (rr := [.int x2]) (en := [some (.ref a2), some (.int (h1.1.2 (a3 + 1).toNatClampNeg)), none, none]) bd_132_577 bm_4_91 rfl rfl rfl ⟨Nat.le_of_ble_eq_true rfl, Nat.le_of_ble_eq_true rfl, Nat.le_of_ble_eq_true rfl, Nat.le_of_ble_eq_true rfl⟩ (Or.inl rfl)) ?_
  refine bn_gd_c (bn_cI_c fun x4 h3 => ?_)
  refine Eq.trans (be_icmp_eq (t := 773) bd_132_580 rfl) ?_
  refine bn_if_c ?_ ?_
  · rfl
  · refine Eq.trans (be_iconst (v := 0) bd_132_583 (by decide)) ?_
    exact be_z0 bd_132_584 rfl (Or.inl rfl)
theorem bs_L_law_585 (a1 : Nat) (a2 : Nat) (a3 : Int32) (h : bn_H) : bn_ev 132 585 [some (.retAddr 0), some (.ref a1), some (.ref a2), some (.int a3)] [] h = if (a3 + 1) < 0 ∨ h.1.1 ≤ (a3 + 1).toNatClampNeg then none else (if (a3 + 2) < 0 ∨ h.1.1 ≤ (a3 + 2).toNatClampNeg then none else (if (a3 + 3) < 0 ∨ h.1.1 ≤ (a3 + 3).toNatClampNeg then none else (if (a3 + 4) < 0 ∨ h.1.1 ≤ (a3 + 4).toNatClampNeg then none else (bn_gd (bn_isC h a1 2) (bn_cI (bn_ev 64 0 [some (.ref a1), some (.int (h.1.2 (a3 + 1).toNatClampNeg)), some (.int (h.1.2 (a3 + 2).toNatClampNeg)), some (.int (h.1.2 (a3 + 3).toNatClampNeg)), some (.int (if (h.1.2 (a3 + 4).toNatClampNeg) = 0 then 0 else 1)), none, none] [] h) (fun x2 h1 => if (a3 + 1) < 0 ∨ h1.1.1 ≤ (a3 + 1).toNatClampNeg then none else (if (a3 + 2) < 0 ∨ h1.1.1 ≤ (a3 + 2).toNatClampNeg then none else (if (a3 + 3) < 0 ∨ h1.1.1 ≤ (a3 + 3).toNatClampNeg then none else (if (a3 + 4) < 0 ∨ h1.1.1 ≤ (a3 + 4).toNatClampNeg then none else (bn_gd (bn_isC h1 a2 3) (bn_cI (bn_ev 123 0 [some (.ref a2), some (.int (h1.1.2 (a3 + 1).toNatClampNeg)), some (.int (h1.1.2 (a3 + 2).toNatClampNeg)), some (.int (h1.1.2 (a3 + 3).toNatClampNeg)), some (.int (if (h1.1.2 (a3 + 4).toNatClampNeg) = 0 then 0 else 1)), none, none] [] h1) (fun x4 h3 => if x2 = x4 then (bn_ev 132 773 [some (.retAddr 0), some (.ref a1), some (.ref a2), some (.int a3)] [] h3) else (some (some (.int 0), h3)))))))))))))) := by
  refine Eq.trans (be_aload_n bd_132_585 rfl) ?_
  refine Eq.trans (be_sload_n bd_132_586 rfl) ?_
  refine Eq.trans (be_iload_n bd_132_587 rfl) ?_
  refine Eq.trans (be_iconst (v := 1) bd_132_588 (by decide)) ?_
  refine Eq.trans (be_iadd bd_132_589) ?_
  refine Eq.trans (be_saload bd_132_590) ?_
  refine bn_if_c rfl ?_
  refine Eq.trans (be_sload_n bd_132_591 rfl) ?_
  refine Eq.trans (be_iload_n bd_132_592 rfl) ?_
  refine Eq.trans (be_iconst (v := 2) bd_132_593 (by decide)) ?_
  refine Eq.trans (be_iadd bd_132_594) ?_
  refine Eq.trans (be_saload bd_132_595) ?_
  refine bn_if_c rfl ?_
  refine Eq.trans (be_sload_n bd_132_596 rfl) ?_
  refine Eq.trans (be_iload_n bd_132_597 rfl) ?_
  refine Eq.trans (be_iconst (v := 3) bd_132_598 (by decide)) ?_
  refine Eq.trans (be_iadd bd_132_599) ?_
  refine Eq.trans (be_saload bd_132_600) ?_
  refine bn_if_c rfl ?_
  refine Eq.trans (be_sload_n bd_132_601 rfl) ?_
  refine Eq.trans (be_iload_n bd_132_602 rfl) ?_
  refine Eq.trans (be_iconst (v := 4) bd_132_603 (by decide)) ?_
  refine Eq.trans (be_iadd bd_132_604) ?_
  refine Eq.trans (be_saload bd_132_605) ?_
  refine bn_if_c rfl ?_
  refine Eq.trans (be_if_eq (t := 613) bd_132_606 rfl) ?_
  refine Eq.trans (bn_dia (J := 614) (a := 0) (b := 1) (by
      refine Eq.trans (be_iconst (v := 0) bd_132_613 (by decide)) ?_
      rfl) (by
      refine Eq.trans (be_iconst (v := 1) bd_132_609 (by decide)) ?_
      refine Eq.trans (be_goto (t := 614) bd_132_610 rfl) ?_
      rfl)) ?_
  refine Eq.trans (be_virtI (as := [.int (if (h.1.2 (a3 + 4).toNatClampNeg) = 0 then 0 else 1), .int (h.1.2 (a3 + 3).toNatClampNeg), .int (h.1.2 (a3 + 2).toNatClampNeg), .int (h.1.2 (a3 + 1).toNatClampNeg)]) (rr := []) (en := [some (.ref a1), some (.int (h.1.2 (a3 + 1).toNatClampNeg)), some (.int (h.1.2 (a3 + 2).toNatClampNeg)), some (.int (h.1.2 (a3 + 3).toNatClampNeg)), some (.int (if (h.1.2 (a3 + 4).toNatClampNeg) = 0 then 0 else 1)), none, none]) bd_132_614 bm_4_92 rfl rfl rfl ⟨Nat.le_of_ble_eq_true rfl, Nat.le_of_ble_eq_true rfl, Nat.le_of_ble_eq_true rfl, Nat.le_of_ble_eq_true rfl⟩ (Or.inl rfl)) ?_
  refine bn_gd_c (bn_cI_c fun x2 h1 => ?_)
  refine Eq.trans (be_aload_n bd_132_617 rfl) ?_
  refine Eq.trans (be_sload_n bd_132_618 rfl) ?_
  refine Eq.trans (be_iload_n bd_132_619 rfl) ?_
  refine Eq.trans (be_iconst (v := 1) bd_132_620 (by decide)) ?_
  refine Eq.trans (be_iadd bd_132_621) ?_
  refine Eq.trans (be_saload bd_132_622) ?_
  refine bn_if_c rfl ?_
  refine Eq.trans (be_sload_n bd_132_623 rfl) ?_
  refine Eq.trans (be_iload_n bd_132_624 rfl) ?_
  refine Eq.trans (be_iconst (v := 2) bd_132_625 (by decide)) ?_
  refine Eq.trans (be_iadd bd_132_626) ?_
  refine Eq.trans (be_saload bd_132_627) ?_
  refine bn_if_c rfl ?_
  refine Eq.trans (be_sload_n bd_132_628 rfl) ?_
  refine Eq.trans (be_iload_n bd_132_629 rfl) ?_
  refine Eq.trans (be_iconst (v := 3) bd_132_630 (by decide)) ?_
  refine Eq.trans (be_iadd bd_132_631) ?_
  refine Eq.trans (be_saload bd_132_632) ?_
  refine bn_if_c rfl ?_
  refine Eq.trans (be_sload_n bd_132_633 rfl) ?_
  refine Eq.trans (be_iload_n bd_132_634 rfl) ?_
  refine Eq.trans (be_iconst (v := 4) bd_132_635 (by decide)) ?_
  refine Eq.trans (be_iadd bd_132_636) ?_
  refine Eq.trans (be_saload bd_132_637) ?_
  refine bn_if_c rfl ?_
  refine Eq.trans (be_if_eq (t := 645) bd_132_638 rfl) ?_
  refine Eq.trans (bn_dia (J := 646) (a := 0) (b := 1) (by
      refine Eq.trans (be_iconst (v := 0) bd_132_645 (by decide)) ?_
      rfl) (by
      refine Eq.trans (be_iconst (v := 1) bd_132_641 (by decide)) ?_
      refine Eq.trans (be_goto (t := 646) bd_132_642 rfl) ?_
      rfl)) ?_
  refine Eq.trans (be_virtI (as := [.int (if (h1.1.2 (a3 + 4).toNatClampNeg) = 0 then 0 else 1), .int (h1.1.2 (a3 + 3).toNatClampNeg), .int (h1.1.2 (a3 + 2).toNatClampNeg), .int (h1.1.2 (a3 + 1).toNatClampNeg)]) (rr := [.int x2]) (en := [some (.ref a2), some (.int (h1.1.2 (a3 + 1).toNatClampNeg)), some (.int (h1.1.2 (a3 + 2).toNatClampNeg)), some (.int (h1.1.2 (a3 + 3).toNatClampNeg)), some (.int (if (h1.1.2 (a3 + 4).toNatClampNeg) = 0 then 0 else 1)), none, none]) bd_132_646 bm_4_96 rfl rfl rfl ⟨Nat.le_of_ble_eq_true rfl, Nat.le_of_ble_eq_true rfl, Nat.le_of_ble_eq_true rfl, Nat.le_of_ble_eq_true rfl⟩ (Or.inl rfl)) ?_
  refine bn_gd_c (bn_cI_c fun x4 h3 => ?_)
  refine Eq.trans (be_icmp_eq (t := 773) bd_132_649 rfl) ?_
  refine bn_if_c ?_ ?_
  · rfl
  · refine Eq.trans (be_iconst (v := 0) bd_132_652 (by decide)) ?_
    exact be_z0 bd_132_653 rfl (Or.inl rfl)
theorem bs_L_law_654 (a1 : Nat) (a2 : Nat) (a3 : Int32) (h : bn_H) : bn_ev 132 654 [some (.retAddr 0), some (.ref a1), some (.ref a2), some (.int a3)] [] h = if (a3 + 1) < 0 ∨ h.1.1 ≤ (a3 + 1).toNatClampNeg then none else (if (a3 + 2) < 0 ∨ h.1.1 ≤ (a3 + 2).toNatClampNeg then none else (bn_gd (bn_isC h a1 2) (bn_cJ (bn_ev 65 0 [some (.ref a1), some (.int (h.1.2 (a3 + 1).toNatClampNeg)), some (.int (if (h.1.2 (a3 + 2).toNatClampNeg) = 0 then 0 else 1)), none, none, none, none, none, none, none] [] h) (fun y2 h1 => if (a3 + 1) < 0 ∨ h1.1.1 ≤ (a3 + 1).toNatClampNeg then none else (if (a3 + 2) < 0 ∨ h1.1.1 ≤ (a3 + 2).toNatClampNeg then none else (bn_gd (bn_isC h1 a2 3) (bn_cJ (bn_ev 125 0 [some (.ref a2), some (.int (h1.1.2 (a3 + 1).toNatClampNeg)), some (.int (if (h1.1.2 (a3 + 2).toNatClampNeg) = 0 then 0 else 1)), none, none, none, none, none, none, none, none, none, none, none, none] [] h1) (fun y4 h3 => if (lg_cmp y2 y4) = 0 then (bn_ev 132 773 [some (.retAddr 0), some (.ref a1), some (.ref a2), some (.int a3)] [] h3) else (some (some (.int 0), h3)))))))))) := by
  refine Eq.trans (be_aload_n bd_132_654 rfl) ?_
  refine Eq.trans (be_sload_n bd_132_655 rfl) ?_
  refine Eq.trans (be_iload_n bd_132_656 rfl) ?_
  refine Eq.trans (be_iconst (v := 1) bd_132_657 (by decide)) ?_
  refine Eq.trans (be_iadd bd_132_658) ?_
  refine Eq.trans (be_saload bd_132_659) ?_
  refine bn_if_c rfl ?_
  refine Eq.trans (be_sload_n bd_132_660 rfl) ?_
  refine Eq.trans (be_iload_n bd_132_661 rfl) ?_
  refine Eq.trans (be_iconst (v := 2) bd_132_662 (by decide)) ?_
  refine Eq.trans (be_iadd bd_132_663) ?_
  refine Eq.trans (be_saload bd_132_664) ?_
  refine bn_if_c rfl ?_
  refine Eq.trans (be_if_eq (t := 672) bd_132_665 rfl) ?_
  refine Eq.trans (bn_dia (J := 673) (a := 0) (b := 1) (by
      refine Eq.trans (be_iconst (v := 0) bd_132_672 (by decide)) ?_
      rfl) (by
      refine Eq.trans (be_iconst (v := 1) bd_132_668 (by decide)) ?_
      refine Eq.trans (be_goto (t := 673) bd_132_669 rfl) ?_
      rfl)) ?_
  refine Eq.trans (be_virtJ (as := [.int (if (h.1.2 (a3 + 2).toNatClampNeg) = 0 then 0 else 1), .int (h.1.2 (a3 + 1).toNatClampNeg)]) (rr := []) (en := [some (.ref a1), some (.int (h.1.2 (a3 + 1).toNatClampNeg)), some (.int (if (h.1.2 (a3 + 2).toNatClampNeg) = 0 then 0 else 1)), none, none, none, none, none, none, none]) bd_132_673 bm_4_97 rfl rfl rfl ⟨Nat.le_of_ble_eq_true rfl, Nat.le_of_ble_eq_true rfl, Nat.le_of_ble_eq_true rfl, Nat.le_of_ble_eq_true rfl⟩ rfl) ?_
  refine bn_gd_c (bn_cJ_c fun y2 h1 => ?_)
  refine Eq.trans (be_aload_n bd_132_676 rfl) ?_
  refine Eq.trans (be_sload_n bd_132_677 rfl) ?_
  refine Eq.trans (be_iload_n bd_132_678 rfl) ?_
  refine Eq.trans (be_iconst (v := 1) bd_132_679 (by decide)) ?_
  refine Eq.trans (be_iadd bd_132_680) ?_
  refine Eq.trans (be_saload bd_132_681) ?_
  refine bn_if_c rfl ?_
  refine Eq.trans (be_sload_n bd_132_682 rfl) ?_
  refine Eq.trans (be_iload_n bd_132_683 rfl) ?_
  refine Eq.trans (be_iconst (v := 2) bd_132_684 (by decide)) ?_
  refine Eq.trans (be_iadd bd_132_685) ?_
  refine Eq.trans (be_saload bd_132_686) ?_
  refine bn_if_c rfl ?_
  refine Eq.trans (be_if_eq (t := 694) bd_132_687 rfl) ?_
  refine Eq.trans (bn_dia (J := 695) (a := 0) (b := 1) (by
      refine Eq.trans (be_iconst (v := 0) bd_132_694 (by decide)) ?_
      rfl) (by
      refine Eq.trans (be_iconst (v := 1) bd_132_690 (by decide)) ?_
      refine Eq.trans (be_goto (t := 695) bd_132_691 rfl) ?_
      rfl)) ?_
  refine Eq.trans (be_virtJ (as := [.int (if (h1.1.2 (a3 + 2).toNatClampNeg) = 0 then 0 else 1), .int (h1.1.2 (a3 + 1).toNatClampNeg)]) (rr := [.long y2]) (en := [some (.ref a2), some (.int (h1.1.2 (a3 + 1).toNatClampNeg)), some (.int (if (h1.1.2 (a3 + 2).toNatClampNeg) = 0 then 0 else 1)), none, none, none, none, none, none, none, none, none, none, none, none]) bd_132_695 bm_4_101 rfl rfl rfl ⟨Nat.le_of_ble_eq_true rfl, Nat.le_of_ble_eq_true rfl, Nat.le_of_ble_eq_true rfl, Nat.le_of_ble_eq_true rfl⟩ rfl) ?_
  refine bn_gd_c (bn_cJ_c fun y4 h3 => ?_)
  refine Eq.trans (be_lcmp bd_132_698) ?_
  refine Eq.trans (be_if_eq (t := 773) bd_132_699 rfl) ?_
  refine bn_if_c ?_ ?_
  · rfl
  · refine Eq.trans (be_iconst (v := 0) bd_132_702 (by decide)) ?_
    exact be_z0 bd_132_703 rfl (Or.inl rfl)
theorem bs_L_law_704 (a1 : Nat) (a2 : Nat) (a3 : Int32) (h : bn_H) : bn_ev 132 704 [some (.retAddr 0), some (.ref a1), some (.ref a2), some (.int a3)] [] h = if (a3 + 1) < 0 ∨ h.1.1 ≤ (a3 + 1).toNatClampNeg then none else (bn_gd (bn_isC h a1 2) (bn_cI (bn_ev 66 0 [some (.ref a1), some (.int (h.1.2 (a3 + 1).toNatClampNeg))] [] h) (fun x2 h1 => if (a3 + 1) < 0 ∨ h1.1.1 ≤ (a3 + 1).toNatClampNeg then none else (bn_gd (bn_isC h1 a2 3) (bn_cI (bn_ev 126 0 [some (.ref a2), some (.int (h1.1.2 (a3 + 1).toNatClampNeg)), none] [] h1) (fun x4 h3 => if x2 = x4 then (bn_ev 132 773 [some (.retAddr 0), some (.ref a1), some (.ref a2), some (.int a3)] [] h3) else (some (some (.int 0), h3)))))))) := by
  refine Eq.trans (be_aload_n bd_132_704 rfl) ?_
  refine Eq.trans (be_sload_n bd_132_705 rfl) ?_
  refine Eq.trans (be_iload_n bd_132_706 rfl) ?_
  refine Eq.trans (be_iconst (v := 1) bd_132_707 (by decide)) ?_
  refine Eq.trans (be_iadd bd_132_708) ?_
  refine Eq.trans (be_saload bd_132_709) ?_
  refine bn_if_c rfl ?_
  refine Eq.trans (be_virtI (as := [.int (h.1.2 (a3 + 1).toNatClampNeg)]) (rr := []) (en := [some (.ref a1), some (.int (h.1.2 (a3 + 1).toNatClampNeg))]) bd_132_710 bm_4_102 rfl rfl rfl ⟨Nat.le_of_ble_eq_true rfl, Nat.le_of_ble_eq_true rfl, Nat.le_of_ble_eq_true rfl, Nat.le_of_ble_eq_true rfl⟩ (Or.inl rfl)) ?_
  refine bn_gd_c (bn_cI_c fun x2 h1 => ?_)
  refine Eq.trans (be_aload_n bd_132_713 rfl) ?_
  refine Eq.trans (be_sload_n bd_132_714 rfl) ?_
  refine Eq.trans (be_iload_n bd_132_715 rfl) ?_
  refine Eq.trans (be_iconst (v := 1) bd_132_716 (by decide)) ?_
  refine Eq.trans (be_iadd bd_132_717) ?_
  refine Eq.trans (be_saload bd_132_718) ?_
  refine bn_if_c rfl ?_
  refine Eq.trans (be_virtI (as := [.int (h1.1.2 (a3 + 1).toNatClampNeg)]) (rr := [.int x2]) (en := [some (.ref a2), some (.int (h1.1.2 (a3 + 1).toNatClampNeg)), none]) bd_132_719 bm_4_105 rfl rfl rfl ⟨Nat.le_of_ble_eq_true rfl, Nat.le_of_ble_eq_true rfl, Nat.le_of_ble_eq_true rfl, Nat.le_of_ble_eq_true rfl⟩ (Or.inl rfl)) ?_
  refine bn_gd_c (bn_cI_c fun x4 h3 => ?_)
  refine Eq.trans (be_icmp_eq (t := 773) bd_132_722 rfl) ?_
  refine bn_if_c ?_ ?_
  · rfl
  · refine Eq.trans (be_iconst (v := 0) bd_132_725 (by decide)) ?_
    exact be_z0 bd_132_726 rfl (Or.inl rfl)
theorem bs_L_law_727 (a1 : Nat) (a2 : Nat) (a3 : Int32) (h : bn_H) : bn_ev 132 727 [some (.retAddr 0), some (.ref a1), some (.ref a2), some (.int a3)] [] h = if (a3 + 1) < 0 ∨ h.1.1 ≤ (a3 + 1).toNatClampNeg then none else (bn_gd (bn_isC h a1 2) (bn_cI (bn_ev 67 0 [some (.ref a1), some (.int (h.1.2 (a3 + 1).toNatClampNeg))] [] h) (fun x2 h1 => if (a3 + 1) < 0 ∨ h1.1.1 ≤ (a3 + 1).toNatClampNeg then none else (bn_gd (bn_isC h1 a2 3) (bn_cI (bn_ev 127 0 [some (.ref a2), some (.int (h1.1.2 (a3 + 1).toNatClampNeg)), none] [] h1) (fun x4 h3 => if x2 = x4 then (bn_ev 132 773 [some (.retAddr 0), some (.ref a1), some (.ref a2), some (.int a3)] [] h3) else (some (some (.int 0), h3)))))))) := by
  refine Eq.trans (be_aload_n bd_132_727 rfl) ?_
  refine Eq.trans (be_sload_n bd_132_728 rfl) ?_
  refine Eq.trans (be_iload_n bd_132_729 rfl) ?_
  refine Eq.trans (be_iconst (v := 1) bd_132_730 (by decide)) ?_
  refine Eq.trans (be_iadd bd_132_731) ?_
  refine Eq.trans (be_saload bd_132_732) ?_
  refine bn_if_c rfl ?_
  refine Eq.trans (be_virtI (as := [.int (h.1.2 (a3 + 1).toNatClampNeg)]) (rr := []) (en := [some (.ref a1), some (.int (h.1.2 (a3 + 1).toNatClampNeg))]) bd_132_733 bm_4_106 rfl rfl rfl ⟨Nat.le_of_ble_eq_true rfl, Nat.le_of_ble_eq_true rfl, Nat.le_of_ble_eq_true rfl, Nat.le_of_ble_eq_true rfl⟩ (Or.inl rfl)) ?_
  refine bn_gd_c (bn_cI_c fun x2 h1 => ?_)
  refine Eq.trans (be_aload_n bd_132_736 rfl) ?_
  refine Eq.trans (be_sload_n bd_132_737 rfl) ?_
  refine Eq.trans (be_iload_n bd_132_738 rfl) ?_
  refine Eq.trans (be_iconst (v := 1) bd_132_739 (by decide)) ?_
  refine Eq.trans (be_iadd bd_132_740) ?_
  refine Eq.trans (be_saload bd_132_741) ?_
  refine bn_if_c rfl ?_
  refine Eq.trans (be_virtI (as := [.int (h1.1.2 (a3 + 1).toNatClampNeg)]) (rr := [.int x2]) (en := [some (.ref a2), some (.int (h1.1.2 (a3 + 1).toNatClampNeg)), none]) bd_132_742 bm_4_109 rfl rfl rfl ⟨Nat.le_of_ble_eq_true rfl, Nat.le_of_ble_eq_true rfl, Nat.le_of_ble_eq_true rfl, Nat.le_of_ble_eq_true rfl⟩ (Or.inl rfl)) ?_
  refine bn_gd_c (bn_cI_c fun x4 h3 => ?_)
  refine Eq.trans (be_icmp_eq (t := 773) bd_132_745 rfl) ?_
  refine bn_if_c ?_ ?_
  · rfl
  · refine Eq.trans (be_iconst (v := 0) bd_132_748 (by decide)) ?_
    exact be_z0 bd_132_749 rfl (Or.inl rfl)
theorem bs_L_law_750 (a1 : Nat) (a2 : Nat) (a3 : Int32) (h : bn_H) : bn_ev 132 750 [some (.retAddr 0), some (.ref a1), some (.ref a2), some (.int a3)] [] h = if (a3 + 1) < 0 ∨ h.1.1 ≤ (a3 + 1).toNatClampNeg then none else (bn_gd (bn_isC h a1 2) (bn_cI (bn_ev 68 0 [some (.ref a1), some (.int (h.1.2 (a3 + 1).toNatClampNeg))] [] h) (fun x2 h1 => if (a3 + 1) < 0 ∨ h1.1.1 ≤ (a3 + 1).toNatClampNeg then none else (bn_gd (bn_isC h1 a2 3) (bn_cI (bn_ev 128 0 [some (.ref a2), some (.int (h1.1.2 (a3 + 1).toNatClampNeg)), none, none, none, none] [] h1) (fun x4 h3 => if x2 = x4 then (bn_ev 132 773 [some (.retAddr 0), some (.ref a1), some (.ref a2), some (.int a3)] [] h3) else (some (some (.int 0), h3)))))))) := by
  refine Eq.trans (be_aload_n bd_132_750 rfl) ?_
  refine Eq.trans (be_sload_n bd_132_751 rfl) ?_
  refine Eq.trans (be_iload_n bd_132_752 rfl) ?_
  refine Eq.trans (be_iconst (v := 1) bd_132_753 (by decide)) ?_
  refine Eq.trans (be_iadd bd_132_754) ?_
  refine Eq.trans (be_saload bd_132_755) ?_
  refine bn_if_c rfl ?_
  refine Eq.trans (be_virtI (as := [.int (h.1.2 (a3 + 1).toNatClampNeg)]) (rr := []) (en := [some (.ref a1), some (.int (h.1.2 (a3 + 1).toNatClampNeg))]) bd_132_756 bm_4_110 rfl rfl rfl ⟨Nat.le_of_ble_eq_true rfl, Nat.le_of_ble_eq_true rfl, Nat.le_of_ble_eq_true rfl, Nat.le_of_ble_eq_true rfl⟩ (Or.inl rfl)) ?_
  refine bn_gd_c (bn_cI_c fun x2 h1 => ?_)
  refine Eq.trans (be_aload_n bd_132_759 rfl) ?_
  refine Eq.trans (be_sload_n bd_132_760 rfl) ?_
  refine Eq.trans (be_iload_n bd_132_761 rfl) ?_
  refine Eq.trans (be_iconst (v := 1) bd_132_762 (by decide)) ?_
  refine Eq.trans (be_iadd bd_132_763) ?_
  refine Eq.trans (be_saload bd_132_764) ?_
  refine bn_if_c rfl ?_
  refine Eq.trans (be_virtI (as := [.int (h1.1.2 (a3 + 1).toNatClampNeg)]) (rr := [.int x2]) (en := [some (.ref a2), some (.int (h1.1.2 (a3 + 1).toNatClampNeg)), none, none, none, none]) bd_132_765 bm_4_113 rfl rfl rfl ⟨Nat.le_of_ble_eq_true rfl, Nat.le_of_ble_eq_true rfl, Nat.le_of_ble_eq_true rfl, Nat.le_of_ble_eq_true rfl⟩ (Or.inl rfl)) ?_
  refine bn_gd_c (bn_cI_c fun x4 h3 => ?_)
  refine Eq.trans (be_icmp_eq (t := 773) bd_132_768 rfl) ?_
  refine bn_if_c ?_ ?_
  · rfl
  · refine Eq.trans (be_iconst (v := 0) bd_132_771 (by decide)) ?_
    exact be_z0 bd_132_772 rfl (Or.inl rfl)
theorem bs_L_law_773 (a1 : Nat) (a2 : Nat) (a3 : Int32) (h : bn_H) : bn_ev 132 773 [some (.retAddr 0), some (.ref a1), some (.ref a2), some (.int a3)] [] h = bn_ev 132 18 [some (.retAddr 0), some (.ref a1), some (.ref a2), some (.int (a3 + 5))] [] h := by
  refine Eq.trans (be_iinc (v := 5) (ls' := [some (.retAddr 0), some (.ref a1), some (.ref a2), some (.int (a3 + 5))]) bd_132_773 rfl (by decide) (Nat.le_of_ble_eq_true rfl) rfl) ?_
  refine Eq.trans (be_goto (t := 18) bd_132_776 rfl) ?_
  rfl
