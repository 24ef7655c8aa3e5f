/-! ONE INSTRUCTION OF THE WALK IS ONE OF THE MACHINE: cells -/
section XH
variable {mi pc len : Nat} {ls : bn_L} {st : List Value} {h : bn_H} {a : bn_Q}
theorem bn_fits (ty : FieldType) (G : bn_G) (v : Value) (h : fits ty v = true) : fits ty (bn_cv G v) = true := by
  cases v with
  | ref k => cases ty <;> first | rfl | (exact h) | (simp [fits] at h)
  | retAddr k => cases ty <;> simp [fits] at h
  | _ => exact h
theorem bn_narr (ty : FieldType) (G : bn_G) (v : Value) (h : narrow ty v = v) : narrow ty (bn_cv G v) = bn_cv G v := by
  cases v with
  | ref k => cases ty <;> rfl
  | retAddr k => cases ty <;> rfl
  | _ => exact h
theorem bn_s_getfield {k : Nat} (hd : decode (bn_b mi) pc = .ok (.getfield k, len)) (hL : len = bn_ln (.getfield k) len) (e : bn_x mi (.getfield k) pc ls st h = some a) : bn_XW mi pc ls st h a := by
  have hL : len = 3 := hL
  subst hL
  simp only [bn_x] at e
  split at e
  · obtain ⟨q, hq, e⟩ := Option.bind_eq_some_iff.mp e
    obtain ⟨v, hv, e⟩ := Option.bind_eq_some_iff.mp e
    split at e
    rotate_left
    · cases e
    cases e
    obtain ⟨fs, hg, hk⟩ := bn_gf_inv hv
    obtain ⟨f1, f2, f3, f4⟩ := bn_fl_ok hq
    refine bn_heap rfl rfl rfl fun C hl hW kk => ?_
    exact va_get C.1 C.2.1 C.2.2.2.2.1 (bn_inX f4) C.2.2.2.1 C.2.2.2.2.2.2.2.2.1 hW.1 _ (bn_wl_get hg) (bn_clX f4) q.2 f2 (C.2.2.2.2.1 _ f1) (fun x hx => by rw [f3] at hx; exact hx) (by rw [List.getElem?_map, hk]; rfl) hd (kk _ _ _ hW hl)
  · cases e
theorem bn_s_putfield {k : Nat} (hd : decode (bn_b mi) pc = .ok (.putfield k, len)) (hL : len = bn_ln (.putfield k) len) (e : bn_x mi (.putfield k) pc ls st h = some a) : bn_XW mi pc ls st h a := by
  have hL : len = 3 := hL
  subst hL
  simp only [bn_x] at e
  split at e
  · obtain ⟨q, hq, e⟩ := Option.bind_eq_some_iff.mp e
    split at e
    · rename_i hc
      obtain ⟨c1, c2, c3⟩ := hc
      obtain ⟨h', hp, rfl⟩ := Option.map_eq_some_iff.mp e
      obtain ⟨fs, hg, hk, rfl⟩ := bn_pf_inv hp
      obtain ⟨f1, f2, f3, f4⟩ := bn_fl_ok hq
      refine bn_heap rfl rfl rfl fun {_ _ _ _ _ _ _ _ _ _ _ G _ _ _ _ _} C hl hW kk => ?_
      have hn := bn_narr _ G _ c1
      have hf := bn_fits _ G _ c2
      by_cases hfin : (bn_T q.1 q.2).2.2.2 = false
      · have c3 := hfin
        exact va_put C.1 C.2.1 C.2.2.2.2.1 (bn_inX f4) (bn_ty q.1) (bn_tyX f4) (bn_nmX f4) C.2.2.2.1 C.2.2.2.2.2.2.2.2.1 hW.1 hW.2.1 hW.2.2 _ (bn_wl_get hg) (bn_clX f4) q.2 f2 (C.2.2.2.2.1 _ f1) (fun x hx => by rw [f3] at hx; exact hx) c3 (bn_tyX f4 _ f2) hn hf (by rw [List.length_map]; exact hk) hd (fun H1 locs1 g1 g2 g3 => kk _ _ _ (bn_W.set hg (by simp only [bn_ce, List.map_set]) g1 g2 g3) hl)
      rcases c3 with c3 | ⟨c4, c4'⟩
      · exact absurd c3 hfin
      · exact va_putF C.1 C.2.1 C.2.2.2.2.1 (bn_inX f4) (bn_ty q.1) (bn_tyX f4) (bn_nmX f4) C.2.2.2.1 C.2.2.2.2.2.2.2.2.1 hW.1 hW.2.1 hW.2.2 _ (bn_wl_get hg) (bn_clX f4) q.2 f2 (C.2.2.2.2.1 _ f1) (fun x hx => by rw [f3] at hx; exact hx) (by cases hfi : (bn_T q.1 q.2).2.2.2 with | true => rfl | false => exact absurd hfi hfin) (C.2.2.2.2.2.1 c4) c4' (bn_tyX f4 _ f2) hn hf (by rw [List.length_map]; exact hk) hd (fun H1 locs1 g1 g2 g3 => kk _ _ _ (bn_W.set hg (by simp only [bn_ce, List.map_set]) g1 g2 g3) hl)
    · cases e
  · cases e
theorem bn_s_iaload  (hd : decode (bn_b mi) pc = .ok (.iaload, len)) (hL : len = bn_ln (.iaload) len) (e : bn_x mi (.iaload) pc ls st h = some a) : bn_XW mi pc ls st h a := by
  have hL : len = 1 := hL
  subst hL
  simp only [bn_x] at e
  split at e
  · obtain ⟨v, hv, rfl⟩ := Option.map_eq_some_iff.mp e
    obtain ⟨b, hb, hv⟩ := Option.bind_eq_some_iff.mp hv
    split at hv
    · cases hv
    · rename_i hin
      cases hv
      exact bn_heap rfl rfl rfl fun C hl hW kk => va_iald C.1 C.2.1 C.2.2.2.2.2.2.2.2.1 hW.1 _ 0 (bn_wl_get (bn_ai_inv hb)) rfl hin hd (kk _ _ _ hW hl)
  · split at e
    · cases e
    · rename_i hin
      cases e
      exact bn_heap rfl rfl rfl fun {p l e R s m args below meth c Q G H locs cells slots A} C hl hW kk => va_sld C.1 C.2.1 C.2.2.2.2.2.2.2.2.2.2.1 (show G.2.1 < s.heap.size from Nat.lt_of_lt_of_le C.2.2.2.2.2.2.2.2.2.2.2.1 C.2.2.2.2.2.2.2.2.2.2.2.2) (Nat.not_le.mpr C.2.2.2.2.2.2.2.2.2.2.2.1) hW.2.2 hin hd (kk _ _ _ hW hl)
  · cases e
theorem bn_s_baload  (hd : decode (bn_b mi) pc = .ok (.baload, len)) (hL : len = bn_ln (.baload) len) (e : bn_x mi (.baload) pc ls st h = some a) : bn_XW mi pc ls st h a := by
  have hL : len = 1 := hL
  subst hL
  simp only [bn_x] at e
  split at e
  · obtain ⟨v, hv, rfl⟩ := Option.map_eq_some_iff.mp e
    obtain ⟨b, hb, hv⟩ := Option.bind_eq_some_iff.mp hv
    split at hv
    · cases hv
    · rename_i hin
      cases hv
      exact bn_heap rfl rfl rfl fun C hl hW kk => va_zald C.1 C.2.1 C.2.2.2.2.2.2.2.2.1 hW.1 _ 1 (bn_wl_get (bn_ai_inv hb)) rfl hin hd (kk _ _ _ hW hl)
  · cases e
theorem bn_s_laload  (hd : decode (bn_b mi) pc = .ok (.laload, len)) (hL : len = bn_ln (.laload) len) (e : bn_x mi (.laload) pc ls st h = some a) : bn_XW mi pc ls st h a := by
  have hL : len = 1 := hL
  subst hL
  simp only [bn_x] at e
  split at e
  · obtain ⟨v, hv, rfl⟩ := Option.map_eq_some_iff.mp e
    obtain ⟨b, hb, hv⟩ := Option.bind_eq_some_iff.mp hv
    split at hv
    · cases hv
    · rename_i hin
      cases hv
      exact bn_heap rfl rfl rfl fun C hl hW kk => va_lald C.1 C.2.1 C.2.2.2.2.2.2.2.2.1 hW.1 _ 2 (bn_wl_get (bn_al_inv hb)) rfl hin hd (kk _ _ _ hW hl)
  · cases e
theorem bn_s_aaload  (hd : decode (bn_b mi) pc = .ok (.aaload, len)) (hL : len = bn_ln (.aaload) len) (e : bn_x mi (.aaload) pc ls st h = some a) : bn_XW mi pc ls st h a := by
  have hL : len = 1 := hL
  subst hL
  simp only [bn_x] at e
  split at e
  · obtain ⟨v, hv, rfl⟩ := Option.map_eq_some_iff.mp e
    obtain ⟨b, hb, hv⟩ := Option.bind_eq_some_iff.mp hv
    split at hv
    · cases hv
    · rename_i hin
      refine bn_heap rfl rfl rfl fun C hl hW kk => va_aldq C.1 C.2.1 C.2.2.2.2.2.2.2.2.1 hW.1 _ 3 (bn_wl_get (bn_ar_inv hb)) rfl hin hd ?_
      have := kk _ _ _ hW hl
      simp only [hv]
      exact this
  · cases e
theorem bn_s_iastore  (hd : decode (bn_b mi) pc = .ok (.iastore, len)) (hL : len = bn_ln (.iastore) len) (e : bn_x mi (.iastore) pc ls st h = some a) : bn_XW mi pc ls st h a := by
  have hL : len = 1 := hL
  subst hL
  simp only [bn_x] at e
  split at e
  · obtain ⟨v, hv, rfl⟩ := Option.map_eq_some_iff.mp e
    obtain ⟨b, hb, hv⟩ := Option.bind_eq_some_iff.mp hv
    split at hv
    · cases hv
    · rename_i hin
      cases hv
      exact bn_heap rfl rfl rfl fun C hl hW kk => va_iast C.1 C.2.1 C.2.2.2.2.2.2.2.2.1 hW.1 hW.2.1 hW.2.2 _ 0 (bn_wl_get (bn_ai_inv hb)) rfl hin hd (fun H1 locs1 g1 g2 g3 => kk _ _ _ (bn_W.set (bn_ai_inv hb) rfl g1 g2 g3) hl)
  · cases e
theorem bn_s_bastore  (hd : decode (bn_b mi) pc = .ok (.bastore, len)) (hL : len = bn_ln (.bastore) len) (e : bn_x mi (.bastore) pc ls st h = some a) : bn_XW mi pc ls st h a := by
  have hL : len = 1 := hL
  subst hL
  simp only [bn_x] at e
  split at e
  · obtain ⟨v, hv, rfl⟩ := Option.map_eq_some_iff.mp e
    obtain ⟨b, hb, hv⟩ := Option.bind_eq_some_iff.mp hv
    split at hv
    · cases hv
    · rename_i hin
      cases hv
      exact bn_heap rfl rfl rfl fun C hl hW kk => va_zast C.1 C.2.1 C.2.2.2.2.2.2.2.2.1 hW.1 hW.2.1 hW.2.2 _ 1 (bn_wl_get (bn_ai_inv hb)) rfl hin hd (fun H1 locs1 g1 g2 g3 => kk _ _ _ (bn_W.set (bn_ai_inv hb) rfl g1 g2 g3) hl)
  · cases e
theorem bn_s_lastore  (hd : decode (bn_b mi) pc = .ok (.lastore, len)) (hL : len = bn_ln (.lastore) len) (e : bn_x mi (.lastore) pc ls st h = some a) : bn_XW mi pc ls st h a := by
  have hL : len = 1 := hL
  subst hL
  simp only [bn_x] at e
  split at e
  · obtain ⟨v, hv, rfl⟩ := Option.map_eq_some_iff.mp e
    obtain ⟨b, hb, hv⟩ := Option.bind_eq_some_iff.mp hv
    split at hv
    · cases hv
    · rename_i hin
      cases hv
      exact bn_heap rfl rfl rfl fun C hl hW kk => va_last C.1 C.2.1 C.2.2.2.2.2.2.2.2.1 hW.1 hW.2.1 hW.2.2 _ 2 (bn_wl_get (bn_al_inv hb)) rfl hin hd (fun H1 locs1 g1 g2 g3 => kk _ _ _ (bn_W.set (bn_al_inv hb) rfl g1 g2 g3) hl)
  · cases e
theorem bn_upR (G : bn_G) (f : Nat → Option Nat) (i x : Nat) : va_up (fun j => (f j).map (fun k => G.1 + k)) i (some (G.1 + x)) = fun j => (va_up f i (some x) j).map (fun k => G.1 + k) := by
  funext j
  simp only [va_up]
  split <;> rfl
theorem bn_s_aastore  (hd : decode (bn_b mi) pc = .ok (.aastore, len)) (hL : len = bn_ln (.aastore) len) (e : bn_x mi (.aastore) pc ls st h = some a) : bn_XW mi pc ls st h a := by
  have hL : len = 1 := hL
  subst hL
  simp only [bn_x] at e
  split at e
  · obtain ⟨v, hv, rfl⟩ := Option.map_eq_some_iff.mp e
    obtain ⟨b, hb, hv⟩ := Option.bind_eq_some_iff.mp hv
    split at hv
    · cases hv
    · rename_i hin
      cases hv
      have hC := (Bool.not_eq_false _).mp (not_or.mp hin).2
      obtain ⟨fs, hx⟩ := bn_isC_inv hC
      exact bn_heap rfl rfl rfl fun C hl hW kk => va_astq (r := (RX0, TX0, 15)) (ci := 0) C.1 C.2.1 C.2.2.2.2.2.2.2.2.1 hW.1 hW.2.1 hW.2.2 _ 3 _ (bn_wl_get (bn_ar_inv hb)) rfl (bn_wl_get hx) rfl (fun q => hin (Or.inl q)) hd (fun H1 locs1 g1 g2 g3 => kk _ _ _ (bn_W.set (bn_ar_inv hb) (by
        simp only [bn_ce, bn_ca]
        rw [bn_upR]) g1 g2 g3) hl)
  · cases e
theorem bn_s_arraylength  (hd : decode (bn_b mi) pc = .ok (.arraylength, len)) (hL : len = bn_ln (.arraylength) len) (e : bn_x mi (.arraylength) pc ls st h = some a) : bn_XW mi pc ls st h a := by
  have hL : len = 1 := hL
  subst hL
  simp only [bn_x] at e
  split at e
  · cases e
    exact bn_heap rfl rfl rfl fun {p l e R s m args below meth c Q G H locs cells slots A} C hl hW kk => va_slen C.1 C.2.1 C.2.2.2.2.2.2.2.2.2.2.1 (show G.2.1 < s.heap.size from Nat.lt_of_lt_of_le C.2.2.2.2.2.2.2.2.2.2.2.1 C.2.2.2.2.2.2.2.2.2.2.2.2) (Nat.not_le.mpr C.2.2.2.2.2.2.2.2.2.2.2.1) hW.2.2 hd (kk _ _ _ hW hl)
  · cases e
theorem bn_s_tableswitch {dflt lo hi : Int} {offs : Array Int} (hd : decode (bn_b mi) pc = .ok (.tableswitch dflt lo hi offs, len)) (hL : len = bn_ln (.tableswitch dflt lo hi offs) len) (e : bn_x mi (.tableswitch dflt lo hi offs) pc ls st h = some a) : bn_XW mi pc ls st h a := by
  have hL : len = len := hL
  clear hL
  simp only [bn_x] at e
  split at e
  · obtain ⟨off, ho, e⟩ := Option.bind_eq_some_iff.mp e
    obtain ⟨t, ht, rfl⟩ := Option.map_eq_some_iff.mp e
    unfold bn_ts at ho
    split at ho
    · rename_i hq
      cases ho
      exact bn_pure fun C hl _ _ kk => lv_tableOut C.1 C.2.1 hd hq (bn_tg_inv ht) (kk _ hl)
    · rename_i hq
      exact bn_pure fun C hl _ _ kk => lv_tableIn C.1 C.2.1 hd (fun q => hq (Or.inl q)) (fun q => hq (Or.inr q)) ho (bn_tg_inv ht) (kk _ hl)
  · cases e
theorem bn_df {ci : Nat} (hc : ci < 4) (G : bn_G) : ∀ j, j < bn_N ci → defaultValue (bn_ty ci j) = vp_V (((List.range (bn_N ci)).map (fun j => bn_dv (bn_ty ci j))).map (bn_cv G)) j := by
  intro j hj
  unfold vp_V
  rw [List.map_map, List.getD_eq_getElem?_getD, List.getElem?_map, List.getElem?_range hj]
  show _ = bn_cv G (defaultValue (bn_ty ci j))
  cases bn_ty ci j <;> rfl
theorem bn_s_new {k : Nat} (hd : decode (bn_b mi) pc = .ok (.new k, len)) (hL : len = bn_ln (.new k) len) (e : bn_x mi (.new k) pc ls st h = some a) : bn_XW mi pc ls st h a := by
  have hL : len = 3 := hL
  subst hL
  simp only [bn_x] at e
  obtain ⟨ci, hci, rfl⟩ := Option.map_eq_some_iff.mp e
  obtain ⟨f1, f2, f3, f4⟩ := bn_ck_ok hci
  exact bn_newW (st' := st) fun {p l e R s m args below meth c Q G H locs cells slots A} C hl hW hA hc hz kk => va_new C.1 C.2.1 C.2.2.2.2.1 (bn_inX f4) (bn_ty ci) (bn_tyX f4) C.2.2.2.1 (C.2.2.2.2.1 _ f1) (C.2.2.2.2.1 _ f2) (C.2.2.2.2.1 _ f3) C.2.2.2.2.2.2.2.2.1 hW.1 hW.2.1 hW.2.2 hA (bn_clX f4) (bn_df f4 G) hc hz hd (fun q H1 g1 g2 g3 => kk q H1 _ A g1 g2 g3 hl)
theorem bn_s_newarray_int  (hd : decode (bn_b mi) pc = .ok (.newarray .int, len)) (hL : len = bn_ln (.newarray .int) len) (e : bn_x mi (.newarray .int) pc ls st h = some a) : bn_XW mi pc ls st h a := by
  have hL : len = 2 := hL
  subst hL
  simp only [bn_x] at e
  split at e
  · split at e
    · cases e
    · rename_i n r hin
      cases e
      have h1 : ¬ n < 0 := fun q => hin (Or.inl q)
      have h2 : n.toNatClampNeg ≤ 100000 := by
        rcases Nat.lt_or_ge 100000 n.toNatClampNeg with q | q
        · exact absurd (Or.inr q) hin
        · exact q
      refine bn_newW (st' := r) fun {p l e R s m args below meth c Q G H locs cells slots A} C hl hW hA hc hz kk => va_newa (atype := .int) C.1 C.2.1 (C.2.2.2.2.1 _ bn_w_ai) rfl C.2.2.2.2.2.2.2.2.1 hW.1 hW.2.1 hW.2.2 hA (fun cA => vp_cell_i _ _ _) h1 rfl (Nat.le_trans (Nat.mul_le_mul_right _ h2) (Nat.le_of_ble_eq_true rfl)) hc hz hd (fun q cA H1 g0 g1 g2 g3 => ?_)
      have e1 := (g0.2 4 _ rfl).2
      have e2 := (C.2.2.2.2.2.2.2.2.1.2 0 _ rfl).2
      have e3 : cA = G.2.2.2 0 := Option.some.inj (e1.symm.trans e2)
      subst e3
      exact kk q H1 _ A g1 g2 g3 hl
  · cases e
theorem bn_s_newarray_boolean  (hd : decode (bn_b mi) pc = .ok (.newarray .boolean, len)) (hL : len = bn_ln (.newarray .boolean) len) (e : bn_x mi (.newarray .boolean) pc ls st h = some a) : bn_XW mi pc ls st h a := by
  have hL : len = 2 := hL
  subst hL
  simp only [bn_x] at e
  split at e
  · split at e
    · cases e
    · rename_i n r hin
      cases e
      have h1 : ¬ n < 0 := fun q => hin (Or.inl q)
      have h2 : n.toNatClampNeg ≤ 100000 := by
        rcases Nat.lt_or_ge 100000 n.toNatClampNeg with q | q
        · exact absurd (Or.inr q) hin
        · exact q
      refine bn_newW (st' := r) fun {p l e R s m args below meth c Q G H locs cells slots A} C hl hW hA hc hz kk => va_newa (atype := .boolean) C.1 C.2.1 (C.2.2.2.2.1 _ bn_w_az) rfl C.2.2.2.2.2.2.2.2.1 hW.1 hW.2.1 hW.2.2 hA (fun cA => vp_cell_i _ _ _) h1 rfl (Nat.le_trans (Nat.mul_le_mul_right _ h2) (Nat.le_of_ble_eq_true rfl)) hc hz hd (fun q cA H1 g0 g1 g2 g3 => ?_)
      have e1 := (g0.2 4 _ rfl).2
      have e2 := (C.2.2.2.2.2.2.2.2.1.2 1 _ rfl).2
      have e3 : cA = G.2.2.2 1 := Option.some.inj (e1.symm.trans e2)
      subst e3
      exact kk q H1 _ A g1 g2 g3 hl
  · cases e
theorem bn_s_newarray_long  (hd : decode (bn_b mi) pc = .ok (.newarray .long, len)) (hL : len = bn_ln (.newarray .long) len) (e : bn_x mi (.newarray .long) pc ls st h = some a) : bn_XW mi pc ls st h a := by
  have hL : len = 2 := hL
  subst hL
  simp only [bn_x] at e
  split at e
  · split at e
    · cases e
    · rename_i n r hin
      cases e
      have h1 : ¬ n < 0 := fun q => hin (Or.inl q)
      have h2 : n.toNatClampNeg ≤ 100000 := by
        rcases Nat.lt_or_ge 100000 n.toNatClampNeg with q | q
        · exact absurd (Or.inr q) hin
        · exact q
      refine bn_newW (st' := r) fun {p l e R s m args below meth c Q G H locs cells slots A} C hl hW hA hc hz kk => va_newa (atype := .long) C.1 C.2.1 (C.2.2.2.2.1 _ bn_w_al) rfl C.2.2.2.2.2.2.2.2.1 hW.1 hW.2.1 hW.2.2 hA (fun cA => vp_cell_l _ _ _) h1 rfl (Nat.le_trans (Nat.mul_le_mul_right _ h2) (Nat.le_of_ble_eq_true rfl)) hc hz hd (fun q cA H1 g0 g1 g2 g3 => ?_)
      have e1 := (g0.2 4 _ rfl).2
      have e2 := (C.2.2.2.2.2.2.2.2.1.2 2 _ rfl).2
      have e3 : cA = G.2.2.2 2 := Option.some.inj (e1.symm.trans e2)
      subst e3
      exact kk q H1 _ A g1 g2 g3 hl
  · cases e
theorem bn_s_anewarray {k : Nat} (hd : decode (bn_b mi) pc = .ok (.anewarray k, len)) (hL : len = bn_ln (.anewarray k) len) (e : bn_x mi (.anewarray k) pc ls st h = some a) : bn_XW mi pc ls st h a := by
  have hL : len = 3 := hL
  subst hL
  simp only [bn_x] at e
  split at e
  · split at e
    · cases e
    · rename_i n r hin
      cases e
      have h1 : ¬ n < 0 := fun q => hin (Or.inl (Or.inl q))
      have h2 : n.toNatClampNeg ≤ 100000 := by
        rcases Nat.lt_or_ge 100000 n.toNatClampNeg with q | q
        · exact absurd (Or.inl (Or.inr q)) hin
        · exact q
      have h3 : bn_ck (bn_c mi) k = some 0 := by
        by_cases q : bn_ck (bn_c mi) k = some 0
        · exact q
        · exact absurd (Or.inr q) hin
      obtain ⟨f1, f2, f3, f4⟩ := bn_ck_ok h3
      refine bn_newW (st' := r) fun {p l e R s m args below meth c Q G H locs cells slots A} C hl hW hA hc hz kk => va_newq (C := RX0) C.1 C.2.1 C.2.2.2.1 (C.2.2.2.2.1 _ f1) C.2.2.2.2.2.2.2.2.2.1.1 C.2.2.2.2.2.2.2.2.1 hW.1 hW.2.1 hW.2.2 hA h1 rfl (Nat.le_trans (Nat.mul_le_mul_right _ h2) (Nat.le_of_ble_eq_true rfl)) hc hz hd (fun q cA H1 g0 g1 g2 g3 => ?_)
      obtain ⟨_, _, _, _, _, e1⟩ := (g0.2 4 _ rfl).2
      obtain ⟨_, _, _, _, _, e2⟩ := (C.2.2.2.2.2.2.2.2.1.2 3 _ rfl).2
      have e3 : cA = G.2.2.2 3 := Option.some.inj (e1.symm.trans e2)
      subst e3
      exact kk q H1 _ A g1 g2 g3 hl
  · cases e
theorem bn_fr {mi : Nat} {idx : Nat} {q : Nat × Nat} (h : bn_ml (bn_c mi) idx = some q) : bn_ml (bn_c mi) idx = some q := h
def bn_okR (mi pc : Nat) : Bool := decide (1 ≤ bn_f mi) && decide (26 ≤ bn_l mi)
end XH
