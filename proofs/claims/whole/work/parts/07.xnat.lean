/-! ONE INSTRUCTION OF THE WALK IS ONE OF THE MACHINE: Object.<init>, arraycopy, Math.max, Math.min; all of them together -/
section XN
variable {mi pc len : Nat} {ls : bn_L} {st : List Value} {h : bn_H} {a : bn_Q}
theorem bn_s_objinit {k : Nat} (hd : decode (bn_b mi) pc = .ok (.invokespecial k, len)) (hL : len = bn_ln (.invokespecial k) len) (e : bn_x mi (.invokespecial k) pc ls st h = some a) : bn_XW mi pc ls st h a := by
  have hL : len = 3 := hL
  subst hL
  simp only [bn_x] at e
  split at e
  · split at e
    · rename_i p0 r hc
      obtain ⟨c1, c2, c3, c4⟩ := hc
      cases e
      obtain ⟨i, hM⟩ := bn_ml_ok c1
      refine bn_pure fun {p l e R s m args below meth c Q G H locs cells slots A} C hl _ _ kk => ?_
      have f1 := C.2.2.2.2.2.2.1
      have f2 := C.2.2.2.2.2.2.2.1
      have hct := bn_ct_cv G r
      exact W.objInit C.1 C.2.1 C.2.2.2.1 (C.2.2.2.2.1 _ (bn_TT_in hM rfl)) (C.2.2.2.2.1 _ bn_w_oin) (C.2.2.2.2.1 _ bn_w_oco) rfl (hl.1.trans C.2.2.1.symm) rfl hd (by omega) (by
        have : 2 * (F0 m pc A (List.map (bn_cv G) (.ref p0 :: r))).monitorRoom + ((r.map (bn_cv G)).map fun v => v.category).sum ≤ 8 := lv_room (by rw [hct]; exact c2)
        omega) (kk _ hl)
    · cases e
  · cases e
theorem bn_s_static {k : Nat} (hd : decode (bn_b mi) pc = .ok (.invokestatic k, len)) (hL : len = bn_ln (.invokestatic k) len) (e : bn_x mi (.invokestatic k) pc ls st h = some a) : bn_XW mi pc ls st h a := by
  have hL : len = 3 := hL
  subst hL
  simp only [bn_x] at e
  split at e
  · rename_i j hj
    obtain ⟨i, hM⟩ := bn_ml_ok hj
    split at e
    · split at e
      · rename_i n dp q sp p r hc
        obtain ⟨c2, c3, c4⟩ := hc
        obtain ⟨v, hv, rfl⟩ := Option.map_eq_some_iff.mp e
        obtain ⟨b0, hb0, hv⟩ := Option.bind_eq_some_iff.mp hv
        obtain ⟨b1, hb1, hv⟩ := Option.bind_eq_some_iff.mp hv
        split at hv
        · cases hv
        · rename_i hin
          cases hv
          obtain ⟨i1, i2⟩ := not_or.mp hin
          obtain ⟨i3, i4⟩ := not_or.mp i1
          obtain ⟨i5, i6⟩ := not_or.mp i4
          obtain ⟨i7, i8⟩ := not_or.mp i2
          refine bn_heap rfl rfl rfl fun {p l e R s m args below meth c Q G H locs cells slots A} C hl hW kk => ?_
          have f1 := C.2.2.2.2.2.2.1
          have f2 := C.2.2.2.2.2.2.2.1
          have hct := bn_ct_cv G r
          exact va_copyi C.1 C.2.1 (C.2.2.1.trans hl.1.symm) C.2.2.2.1 (C.2.2.2.2.1 _ (bn_TT_in hM rfl)) (C.2.2.2.2.1 _ bn_w_nat) (C.2.2.2.2.1 _ bn_w_sta) (C.2.2.2.2.1 _ bn_w_sys) C.2.2.2.2.2.2.2.2.1 hW.1 hW.2.1 hW.2.2 _ _ 0 0 (bn_wl_get (bn_ai_inv hb0)) (bn_wl_get (bn_ai_inv hb1)) rfl rfl rfl i3 i5 i6 (Nat.le_of_not_lt i7) (Nat.le_of_not_lt i8) (fun _ _ => rfl) (by omega) (by
            have : nativeFrameWords "java/lang/System" "arraycopy" 5 = 7 := by decide +kernel
            rw [this, hct]; omega) hd (fun H1 locs1 g1 g2 g3 => kk _ _ _ (bn_W.set (bn_ai_inv hb1) rfl g1 g2 g3) hl)
      · cases e
    · cases e
  · rename_i j hj
    obtain ⟨i, hM⟩ := bn_ml_ok hj
    split at e
    · split at e
      · rename_i y x r hc
        obtain ⟨c2, c3, c4⟩ := hc
        cases e
        refine bn_pure fun {p l e R s m args below meth c Q G H locs cells slots A} C hl h1 h2 kk => ?_
        have f1 := C.2.2.2.2.2.2.1
        have f2 := C.2.2.2.2.2.2.2.1
        have hct := bn_ct_cv G r
        exact va_mmax C.1 C.2.1 (C.2.2.1.trans hl.1.symm) C.2.2.2.1 (C.2.2.2.2.1 _ (bn_TT_in hM rfl)) (C.2.2.2.2.1 _ bn_w_mxs) (C.2.2.2.2.1 _ bn_w_mth) (C.2.2.2.2.1 _ bn_w_mxc) (by omega) (by rw [hct]; omega) h1 h2 hd (kk _ hl)
      · cases e
    · cases e
  · rename_i j hj
    obtain ⟨i, hM⟩ := bn_ml_ok hj
    split at e
    · split at e
      · rename_i y x r hc
        obtain ⟨c2, c3, c4⟩ := hc
        cases e
        refine bn_pure fun {p l e R s m args below meth c Q G H locs cells slots A} C hl h1 h2 kk => ?_
        have f1 := C.2.2.2.2.2.2.1
        have f2 := C.2.2.2.2.2.2.2.1
        have hct := bn_ct_cv G r
        exact va_mmin C.1 C.2.1 (C.2.2.1.trans hl.1.symm) C.2.2.2.1 (C.2.2.2.2.1 _ (bn_TT_in hM rfl)) (C.2.2.2.2.1 _ bn_w_mns) (C.2.2.2.2.1 _ bn_w_mth) (C.2.2.2.2.1 _ bn_w_mnc) (by omega) (by rw [hct]; omega) h1 h2 hd (kk _ hl)
      · cases e
    · cases e
  · cases e
theorem bn_xW {i : Instr} (hd : decode (bn_b mi) pc = .ok (i, len)) (hL : len = bn_ln i len) (e : bn_x mi i pc ls st h = some a) : bn_XW mi pc ls st h a := by
  cases i with
  | iconst n => exact bn_s_iconst hd hL e
  | bipush n => exact bn_s_bipush hd hL e
  | sipush n => exact bn_s_sipush hd hL e
  | lconst n => exact bn_s_lconst hd hL e
  | ldc_w n => exact bn_s_ldcw hd hL e
  | ldc2_w n => exact bn_s_ldc2w hd hL e
  | iload_n n => exact bn_s_iload_n hd hL e
  | iload n => exact bn_s_iload hd hL e
  | lload_n n => exact bn_s_lload_n hd hL e
  | lload n => exact bn_s_lload hd hL e
  | aload_n n => exact bn_s_aload_n hd hL e
  | aload n => exact bn_s_aload hd hL e
  | istore_n n => exact bn_s_istore_n hd hL e
  | istore n => exact bn_s_istore hd hL e
  | lstore_n n => exact bn_s_lstore_n hd hL e
  | lstore n => exact bn_s_lstore hd hL e
  | astore_n n => exact bn_s_astore_n hd hL e
  | astore n => exact bn_s_astore hd hL e
  | iinc n k => exact bn_s_iinc hd hL e
  | iadd => exact bn_s_iadd hd hL e
  | isub => exact bn_s_isub hd hL e
  | imul => exact bn_s_imul hd hL e
  | iand => exact bn_s_iand hd hL e
  | ior => exact bn_s_ior hd hL e
  | ixor => exact bn_s_ixor hd hL e
  | ishl => exact bn_s_ishl hd hL e
  | ishr => exact bn_s_ishr hd hL e
  | iushr => exact bn_s_iushr hd hL e
  | idiv => exact bn_s_idiv hd hL e
  | irem => exact bn_s_irem hd hL e
  | ladd => exact bn_s_ladd hd hL e
  | lsub => exact bn_s_lsub hd hL e
  | lmul => exact bn_s_lmul hd hL e
  | land => exact bn_s_land hd hL e
  | lor => exact bn_s_lor hd hL e
  | ldiv => exact bn_s_ldiv hd hL e
  | lrem => exact bn_s_lrem hd hL e
  | lshl => exact bn_s_lshl hd hL e
  | lshr => exact bn_s_lshr hd hL e
  | lushr => exact bn_s_lushr hd hL e
  | i2l => exact bn_s_i2l hd hL e
  | l2i => exact bn_s_l2i hd hL e
  | lcmp => exact bn_s_lcmp hd hL e
  | dup => exact bn_s_dup hd hL e
  | dup2 => exact bn_s_dup2 hd hL e
  | pop => exact bn_s_pop hd hL e
  | goto off => exact bn_s_goto hd hL e
  | if_icmp c off =>
    cases c with
    | eq => exact bn_s_icmp_eq hd hL e
    | ne => exact bn_s_icmp_ne hd hL e
    | lt => exact bn_s_icmp_lt hd hL e
    | ge => exact bn_s_icmp_ge hd hL e
    | gt => exact bn_s_icmp_gt hd hL e
    | le => exact bn_s_icmp_le hd hL e
  | ifCond c off =>
    cases c with
    | eq => exact bn_s_if_eq hd hL e
    | ne => exact bn_s_if_ne hd hL e
    | lt => exact bn_s_if_lt hd hL e
    | ge => exact bn_s_if_ge hd hL e
    | gt => exact bn_s_if_gt hd hL e
    | le => exact bn_s_if_le hd hL e
  | tableswitch d l u o => exact bn_s_tableswitch hd hL e
  | getfield k => exact bn_s_getfield hd hL e
  | putfield k => exact bn_s_putfield hd hL e
  | iaload => exact bn_s_iaload hd hL e
  | baload => exact bn_s_baload hd hL e
  | laload => exact bn_s_laload hd hL e
  | aaload => exact bn_s_aaload hd hL e
  | iastore => exact bn_s_iastore hd hL e
  | bastore => exact bn_s_bastore hd hL e
  | lastore => exact bn_s_lastore hd hL e
  | aastore => exact bn_s_aastore hd hL e
  | arraylength => exact bn_s_arraylength hd hL e
  | new k => exact bn_s_new hd hL e
  | newarray t =>
    cases t with
    | int => exact bn_s_newarray_int hd hL e
    | boolean => exact bn_s_newarray_boolean hd hL e
    | long => exact bn_s_newarray_long hd hL e
    | _ => cases e
  | anewarray k => exact bn_s_anewarray hd hL e
  | invokespecial k => exact bn_s_objinit hd hL e
  | invokestatic k => exact bn_s_static hd hL e
  | _ => cases e
end XN
