/-! THE LAW'S ARMS: class and model answer alike -/
def lp_J (L : Nat) (xs : Nat → Int32) (h : bn_H) : Prop := h.1 = (L, xs) ∧ ∃ X, cw h X ∧ mw h X ∧ ct_I X
theorem lg_self (y : Int64) : lg_cmp y y = 0 := by
  unfold lg_cmp
  rw [if_neg Int64.lt_irrefl, if_pos rfl]
def la_ok (L : Nat) (xs : Nat → Int32) (i pc : Nat) (h : bn_H) : Prop := ∃ h', bn_ev 132 pc [some (.retAddr 0), some (.ref 0), some (.ref 222), some (.int (nI i))] [] h = bn_ev 132 773 [some (.retAddr 0), some (.ref 0), some (.ref 222), some (.int (nI i))] [] h' ∧ lp_J L xs h' ∧ h'.2.1 = h.2.1 ∧ h'.2.2.1 = h.2.2.1
theorem lp_two {L : Nat} {xs : Nat → Int32} {h : bn_H} {X X' : ct_X} {mi mj : Nat} {as bs : bn_L} {r : Int32} (H1 : cw h X) (H2 : mw h X) (hh : h.1 = (L, xs)) (a : cq_ok mi as h r X') (b : ∀ g, mw g X → mq_ok mj bs g r X') (hI : ct_I X') : ∃ h1 h2, bn_ev mi 0 as [] h = some (some (.int r), h1) ∧ bn_ev mj 0 bs [] h1 = some (some (.int r), h2) ∧ h1.1 = (L, xs) ∧ bn_isC h1 222 3 = true ∧ lp_J L xs h2 ∧ h2.2.1 = h.2.1 ∧ h2.2.2.1 = h.2.2.1 := by
  obtain ⟨h1, e1, C1, F1⟩ := a
  have M1 := H2.fr F1
  obtain ⟨h2, e2, M2, F2⟩ := b h1 M1
  exact ⟨h1, h2, e1, e2, F1.1.trans hh, mg_C M1.G, ⟨F2.1.trans (F1.1.trans hh), X', C1.fr F2 (fun q hq => hq), M2, hI⟩, F2.2.1.trans F1.2.1, F2.2.2.1.trans F1.2.2.1⟩
theorem lp_twoJ {L : Nat} {xs : Nat → Int32} {h : bn_H} {X X' : ct_X} {mi mj : Nat} {as bs : bn_L} {r : Int64} (H1 : cw h X) (H2 : mw h X) (hh : h.1 = (L, xs)) (a : ∃ h', bn_ev mi 0 as [] h = some (some (.long r), h') ∧ cw h' X' ∧ sg_F cw_P h h') (b : ∀ g, mw g X → ∃ h', bn_ev mj 0 bs [] g = some (some (.long r), h') ∧ mw h' X' ∧ sg_F mw_P g h') (hI : ct_I X') : ∃ h1 h2, bn_ev mi 0 as [] h = some (some (.long r), h1) ∧ bn_ev mj 0 bs [] h1 = some (some (.long r), h2) ∧ h1.1 = (L, xs) ∧ bn_isC h1 222 3 = true ∧ lp_J L xs h2 ∧ h2.2.1 = h.2.1 ∧ h2.2.2.1 = h.2.2.1 := by
  obtain ⟨h1, e1, C1, F1⟩ := a
  have M1 := H2.fr F1
  obtain ⟨h2, e2, M2, F2⟩ := b h1 M1
  exact ⟨h1, h2, e1, e2, F1.1.trans hh, mg_C M1.G, ⟨F2.1.trans (F1.1.trans hh), X', C1.fr F2 (fun q hq => hq), M2, hI⟩, F2.2.1.trans F1.2.1, F2.2.2.1.trans F1.2.2.1⟩
theorem la_140 {L i : Nat} {xs : Nat → Int32} {h : bn_H} (J : lp_J L xs h) (hi : i + 4 < L) (hL : L ≤ 320) : la_ok L xs i 140 h := by
  obtain ⟨hh, X, H1, H2, HI⟩ := J
  obtain ⟨f, c, O, -⟩ := H1.O
  have hc0 := co_C O
  obtain ⟨h1, h2, e1, e2, hh1, hC, J2, z1, z2⟩ := lp_two H1 H2 hh (cq_write H1 HI.1 (xs (i + 1)) (bn_lshl (xs (i + 2)).toInt64 32 ||| ((xs (i + 3)).toInt64 &&& 4294967295))) (fun g M => mq_write M HI.1 _ _) (ki_write HI _ _)
  refine ⟨h2, ?_, J2, z1, z2⟩
  have s1 : (nI (i + 1) < 0 ∨ L ≤ i + 1) = False := eq_false (fun z => z.elim (nI_pos (by omega)) (by omega))
  have c1 : (nI (i + 1)).toNatClampNeg = i + 1 := nI_clamp (by omega)
  have s2 : (nI (i + 2) < 0 ∨ L ≤ i + 2) = False := eq_false (fun z => z.elim (nI_pos (by omega)) (by omega))
  have c2 : (nI (i + 2)).toNatClampNeg = i + 2 := nI_clamp (by omega)
  have s3 : (nI (i + 3) < 0 ∨ L ≤ i + 3) = False := eq_false (fun z => z.elim (nI_pos (by omega)) (by omega))
  have c3 : (nI (i + 3)).toNatClampNeg = i + 3 := nI_clamp (by omega)
  rw [bs_L_law_140]
  simp only [n1, n2, n3, s1, c1, s2, c2, s3, c3, hh, hc0, bn_gd, bn_cI, if_true, if_false, e1, hh1, hC, e2, eq_self]
theorem la_203 {L i : Nat} {xs : Nat → Int32} {h : bn_H} (J : lp_J L xs h) (hi : i + 4 < L) (hL : L ≤ 320) : la_ok L xs i 203 h := by
  obtain ⟨hh, X, H1, H2, HI⟩ := J
  obtain ⟨f, c, O, -⟩ := H1.O
  have hc0 := co_C O
  obtain ⟨h1, h2, e1, e2, hh1, hC, J2, z1, z2⟩ := lp_two H1 H2 hh (cq_wipe H1) (fun g M => mq_wipe M) (ki_wipe HI)
  refine ⟨h2, ?_, J2, z1, z2⟩
  rw [bs_L_law_203]
  simp only [hh, hc0, bn_gd, bn_cI, if_true, if_false, e1, hh1, hC, e2, eq_self]
theorem la_216 {L i : Nat} {xs : Nat → Int32} {h : bn_H} (J : lp_J L xs h) (hi : i + 4 < L) (hL : L ≤ 320) : la_ok L xs i 216 h := by
  obtain ⟨hh, X, H1, H2, HI⟩ := J
  obtain ⟨f, c, O, -⟩ := H1.O
  have hc0 := co_C O
  obtain ⟨Sp, BS, Q⟩ := cq_fault H1 HI.1
  obtain ⟨h1, h2, e1, e2, hh1, hC, J2, z1, z2⟩ := lp_two H1 H2 hh Q (fun g M => mq_fault M HI.1 BS) HI
  refine ⟨h2, ?_, J2, z1, z2⟩
  rw [bs_L_law_216]
  simp only [hh, hc0, bn_gd, bn_cI, if_true, if_false, e1, hh1, hC, e2, eq_self]
theorem la_229 {L i : Nat} {xs : Nat → Int32} {h : bn_H} (J : lp_J L xs h) (hi : i + 4 < L) (hL : L ≤ 320) : la_ok L xs i 229 h := by
  obtain ⟨hh, X, H1, H2, HI⟩ := J
  obtain ⟨f, c, O, -⟩ := H1.O
  have hc0 := co_C O
  obtain ⟨r, X', Q0, Q⟩ := cq_siege H1 HI.1
  obtain ⟨h1, h2, e1, e2, hh1, hC, J2, z1, z2⟩ := lp_two H1 H2 hh Q (fun g M => mq_siege M HI.1 Q0) (ki_told HI Q0)
  refine ⟨h2, ?_, J2, z1, z2⟩
  rw [bs_L_law_229]
  simp only [hh, hc0, bn_gd, bn_cI, if_true, if_false, e1, hh1, hC, e2, eq_self]
theorem la_242 {L i : Nat} {xs : Nat → Int32} {h : bn_H} (J : lp_J L xs h) (hi : i + 4 < L) (hL : L ≤ 320) : la_ok L xs i 242 h := by
  obtain ⟨hh, X, H1, H2, HI⟩ := J
  obtain ⟨f, c, O, -⟩ := H1.O
  have hc0 := co_C O
  obtain ⟨h1, h2, e1, e2, hh1, hC, J2, z1, z2⟩ := lp_two H1 H2 hh (cq_ok.same H1 (cq_person H1 HI.1 (xs (i + 1)) (xs (i + 2)))) (fun g M => mq_ok.same M (mq_person M.G HI.1.2.2.1 _ _)) (HI)
  refine ⟨h2, ?_, J2, z1, z2⟩
  have s1 : (nI (i + 1) < 0 ∨ L ≤ i + 1) = False := eq_false (fun z => z.elim (nI_pos (by omega)) (by omega))
  have c1 : (nI (i + 1)).toNatClampNeg = i + 1 := nI_clamp (by omega)
  have s2 : (nI (i + 2) < 0 ∨ L ≤ i + 2) = False := eq_false (fun z => z.elim (nI_pos (by omega)) (by omega))
  have c2 : (nI (i + 2)).toNatClampNeg = i + 2 := nI_clamp (by omega)
  rw [bs_L_law_242]
  simp only [n1, n2, s1, c1, s2, c2, hh, hc0, bn_gd, bn_cI, if_true, if_false, e1, hh1, hC, e2, eq_self]
theorem la_275 {L i : Nat} {xs : Nat → Int32} {h : bn_H} (J : lp_J L xs h) (hi : i + 4 < L) (hL : L ≤ 320) : la_ok L xs i 275 h := by
  obtain ⟨hh, X, H1, H2, HI⟩ := J
  obtain ⟨f, c, O, -⟩ := H1.O
  have hc0 := co_C O
  obtain ⟨h1, h2, e1, e2, hh1, hC, J2, z1, z2⟩ := lp_two H1 H2 hh (cq_ok.same H1 (cq_loaf H1 HI.1 (xs (i + 1)) (xs (i + 2)))) (fun g M => mq_ok.same M (mq_loaf M.G HI.1.2.2.1 _ _)) (HI)
  refine ⟨h2, ?_, J2, z1, z2⟩
  have s1 : (nI (i + 1) < 0 ∨ L ≤ i + 1) = False := eq_false (fun z => z.elim (nI_pos (by omega)) (by omega))
  have c1 : (nI (i + 1)).toNatClampNeg = i + 1 := nI_clamp (by omega)
  have s2 : (nI (i + 2) < 0 ∨ L ≤ i + 2) = False := eq_false (fun z => z.elim (nI_pos (by omega)) (by omega))
  have c2 : (nI (i + 2)).toNatClampNeg = i + 2 := nI_clamp (by omega)
  rw [bs_L_law_275]
  simp only [n1, n2, s1, c1, s2, c2, hh, hc0, bn_gd, bn_cI, if_true, if_false, e1, hh1, hC, e2, eq_self]
theorem la_308 {L i : Nat} {xs : Nat → Int32} {h : bn_H} (J : lp_J L xs h) (hi : i + 4 < L) (hL : L ≤ 320) : la_ok L xs i 308 h := by
  obtain ⟨hh, X, H1, H2, HI⟩ := J
  obtain ⟨f, c, O, -⟩ := H1.O
  have hc0 := co_C O
  obtain ⟨h1, h2, e1, e2, hh1, hC, J2, z1, z2⟩ := lp_two H1 H2 hh (cq_ok.same H1 (cq_may H1 HI.1 (xs (i + 1)) (xs (i + 2)))) (fun g M => mq_ok.same M (mq_may M.G HI.1.2.2.1 _ _)) (HI)
  refine ⟨h2, ?_, J2, z1, z2⟩
  have s1 : (nI (i + 1) < 0 ∨ L ≤ i + 1) = False := eq_false (fun z => z.elim (nI_pos (by omega)) (by omega))
  have c1 : (nI (i + 1)).toNatClampNeg = i + 1 := nI_clamp (by omega)
  have s2 : (nI (i + 2) < 0 ∨ L ≤ i + 2) = False := eq_false (fun z => z.elim (nI_pos (by omega)) (by omega))
  have c2 : (nI (i + 2)).toNatClampNeg = i + 2 := nI_clamp (by omega)
  rw [bs_L_law_308]
  simp only [n1, n2, s1, c1, s2, c2, hh, hc0, bn_gd, bn_cI, if_true, if_false, e1, hh1, hC, e2, eq_self]
theorem la_341 {L i : Nat} {xs : Nat → Int32} {h : bn_H} (J : lp_J L xs h) (hi : i + 4 < L) (hL : L ≤ 320) : la_ok L xs i 341 h := by
  obtain ⟨hh, X, H1, H2, HI⟩ := J
  obtain ⟨f, c, O, -⟩ := H1.O
  have hc0 := co_C O
  obtain ⟨h1, h2, e1, e2, hh1, hC, J2, z1, z2⟩ := lp_two H1 H2 hh (cq_eat H1 HI.1 (xs (i + 1)) (xs (i + 2))) (fun g M => mq_eat M HI.1 _ _) (ki_eat HI _ _)
  refine ⟨h2, ?_, J2, z1, z2⟩
  have s1 : (nI (i + 1) < 0 ∨ L ≤ i + 1) = False := eq_false (fun z => z.elim (nI_pos (by omega)) (by omega))
  have c1 : (nI (i + 1)).toNatClampNeg = i + 1 := nI_clamp (by omega)
  have s2 : (nI (i + 2) < 0 ∨ L ≤ i + 2) = False := eq_false (fun z => z.elim (nI_pos (by omega)) (by omega))
  have c2 : (nI (i + 2)).toNatClampNeg = i + 2 := nI_clamp (by omega)
  rw [bs_L_law_341]
  simp only [n1, n2, s1, c1, s2, c2, hh, hc0, bn_gd, bn_cI, if_true, if_false, e1, hh1, hC, e2, eq_self]
theorem la_374 {L i : Nat} {xs : Nat → Int32} {h : bn_H} (J : lp_J L xs h) (hi : i + 4 < L) (hL : L ≤ 320) : la_ok L xs i 374 h := by
  obtain ⟨hh, X, H1, H2, HI⟩ := J
  obtain ⟨f, c, O, -⟩ := H1.O
  have hc0 := co_C O
  obtain ⟨h1, h2, e1, e2, hh1, hC, J2, z1, z2⟩ := lp_two H1 H2 hh (cq_give H1 HI.1 (xs (i + 1)) (xs (i + 2))) (fun g M => mq_give M HI.1 _ _) (ki_give HI _ _)
  refine ⟨h2, ?_, J2, z1, z2⟩
  have s1 : (nI (i + 1) < 0 ∨ L ≤ i + 1) = False := eq_false (fun z => z.elim (nI_pos (by omega)) (by omega))
  have c1 : (nI (i + 1)).toNatClampNeg = i + 1 := nI_clamp (by omega)
  have s2 : (nI (i + 2) < 0 ∨ L ≤ i + 2) = False := eq_false (fun z => z.elim (nI_pos (by omega)) (by omega))
  have c2 : (nI (i + 2)).toNatClampNeg = i + 2 := nI_clamp (by omega)
  rw [bs_L_law_374]
  simp only [n1, n2, s1, c1, s2, c2, hh, hc0, bn_gd, bn_cI, if_true, if_false, e1, hh1, hC, e2, eq_self]
theorem la_407 {L i : Nat} {xs : Nat → Int32} {h : bn_H} (J : lp_J L xs h) (hi : i + 4 < L) (hL : L ≤ 320) : la_ok L xs i 407 h := by
  obtain ⟨hh, X, H1, H2, HI⟩ := J
  obtain ⟨f, c, O, -⟩ := H1.O
  have hc0 := co_C O
  obtain ⟨h1, h2, e1, e2, hh1, hC, J2, z1, z2⟩ := lp_two H1 H2 hh (cq_cut H1 HI.1 (xs (i + 1))) (fun g M => mq_cut M HI.1 _) (ki_cut HI _)
  refine ⟨h2, ?_, J2, z1, z2⟩
  have s1 : (nI (i + 1) < 0 ∨ L ≤ i + 1) = False := eq_false (fun z => z.elim (nI_pos (by omega)) (by omega))
  have c1 : (nI (i + 1)).toNatClampNeg = i + 1 := nI_clamp (by omega)
  rw [bs_L_law_407]
  simp only [n1, s1, c1, hh, hc0, bn_gd, bn_cI, if_true, if_false, e1, hh1, hC, e2, eq_self]
theorem la_430 {L i : Nat} {xs : Nat → Int32} {h : bn_H} (J : lp_J L xs h) (hi : i + 4 < L) (hL : L ≤ 320) : la_ok L xs i 430 h := by
  obtain ⟨hh, X, H1, H2, HI⟩ := J
  obtain ⟨f, c, O, -⟩ := H1.O
  have hc0 := co_C O
  obtain ⟨h1, h2, e1, e2, hh1, hC, J2, z1, z2⟩ := lp_two H1 H2 hh (cq_day H1 HI.1) (fun g M => mq_day M HI.1) (ki_day HI)
  refine ⟨h2, ?_, J2, z1, z2⟩
  rw [bs_L_law_430]
  simp only [hh, hc0, bn_gd, bn_cI, if_true, if_false, e1, hh1, hC, e2, eq_self]
theorem la_443 {L i : Nat} {xs : Nat → Int32} {h : bn_H} (J : lp_J L xs h) (hi : i + 4 < L) (hL : L ≤ 320) : la_ok L xs i 443 h := by
  obtain ⟨hh, X, H1, H2, HI⟩ := J
  obtain ⟨f, c, O, -⟩ := H1.O
  have hc0 := co_C O
  obtain ⟨h1, h2, e1, e2, hh1, hC, J2, z1, z2⟩ := lp_two H1 H2 hh (cq_night H1 HI.1) (fun g M => mq_night M HI.1) (ki_night HI)
  refine ⟨h2, ?_, J2, z1, z2⟩
  rw [bs_L_law_443]
  simp only [hh, hc0, bn_gd, bn_cI, if_true, if_false, e1, hh1, hC, e2, eq_self]
theorem la_456 {L i : Nat} {xs : Nat → Int32} {h : bn_H} (J : lp_J L xs h) (hi : i + 4 < L) (hL : L ≤ 320) : la_ok L xs i 456 h := by
  obtain ⟨hh, X, H1, H2, HI⟩ := J
  obtain ⟨f, c, O, -⟩ := H1.O
  have hc0 := co_C O
  obtain ⟨h1, h2, e1, e2, hh1, hC, J2, z1, z2⟩ := lp_two H1 H2 hh (cq_undo H1 HI.1) (fun g M => mq_undo M HI.1) (ki_undo HI)
  refine ⟨h2, ?_, J2, z1, z2⟩
  rw [bs_L_law_456]
  simp only [hh, hc0, bn_gd, bn_cI, if_true, if_false, e1, hh1, hC, e2, eq_self]
theorem la_469 {L i : Nat} {xs : Nat → Int32} {h : bn_H} (J : lp_J L xs h) (hi : i + 4 < L) (hL : L ≤ 320) : la_ok L xs i 469 h := by
  obtain ⟨hh, X, H1, H2, HI⟩ := J
  obtain ⟨f, c, O, -⟩ := H1.O
  have hc0 := co_C O
  obtain ⟨h1, h2, e1, e2, hh1, hC, J2, z1, z2⟩ := lp_twoJ H1 H2 hh (cq_seed H1 (bn_lshl (xs (i + 1)).toInt64 32 ||| ((xs (i + 2)).toInt64 &&& 4294967295))) (fun g M => mq_seed M _) (ki_seed HI _)
  refine ⟨h2, ?_, J2, z1, z2⟩
  have s1 : (nI (i + 1) < 0 ∨ L ≤ i + 1) = False := eq_false (fun z => z.elim (nI_pos (by omega)) (by omega))
  have c1 : (nI (i + 1)).toNatClampNeg = i + 1 := nI_clamp (by omega)
  have s2 : (nI (i + 2) < 0 ∨ L ≤ i + 2) = False := eq_false (fun z => z.elim (nI_pos (by omega)) (by omega))
  have c2 : (nI (i + 2)).toNatClampNeg = i + 2 := nI_clamp (by omega)
  rw [bs_L_law_469]
  simp only [n1, n2, s1, c1, s2, c2, hh, hc0, bn_gd, bn_cJ, lg_self, if_true, if_false, e1, hh1, hC, e2, eq_self]
theorem la_523 {L i : Nat} {xs : Nat → Int32} {h : bn_H} (J : lp_J L xs h) (hi : i + 4 < L) (hL : L ≤ 320) : la_ok L xs i 523 h := by
  obtain ⟨hh, X, H1, H2, HI⟩ := J
  obtain ⟨f, c, O, -⟩ := H1.O
  have hc0 := co_C O
  obtain ⟨h1, h2, e1, e2, hh1, hC, J2, z1, z2⟩ := lp_two H1 H2 hh (cq_lasts H1 HI.1) (fun g M => mq_lasts M HI.1) (HI)
  refine ⟨h2, ?_, J2, z1, z2⟩
  rw [bs_L_law_523]
  simp only [hh, hc0, bn_gd, bn_cI, if_true, if_false, e1, hh1, hC, e2, eq_self]
theorem la_536 {L i : Nat} {xs : Nat → Int32} {h : bn_H} (J : lp_J L xs h) (hi : i + 4 < L) (hL : L ≤ 320) : la_ok L xs i 536 h := by
  obtain ⟨hh, X, H1, H2, HI⟩ := J
  obtain ⟨f, c, O, -⟩ := H1.O
  have hc0 := co_C O
  obtain ⟨h1, h2, e1, e2, hh1, hC, J2, z1, z2⟩ := lp_two H1 H2 hh (cq_first H1 HI.1) (fun g M => mq_first M HI.1) (HI)
  refine ⟨h2, ?_, J2, z1, z2⟩
  rw [bs_L_law_536]
  simp only [hh, hc0, bn_gd, bn_cI, if_true, if_false, e1, hh1, hC, e2, eq_self]
theorem la_549 {L i : Nat} {xs : Nat → Int32} {h : bn_H} (J : lp_J L xs h) (hi : i + 4 < L) (hL : L ≤ 320) : la_ok L xs i 549 h := by
  obtain ⟨hh, X, H1, H2, HI⟩ := J
  obtain ⟨f, c, O, -⟩ := H1.O
  have hc0 := co_C O
  obtain ⟨h1, h2, e1, e2, hh1, hC, J2, z1, z2⟩ := lp_two H1 H2 hh (cq_ok.same H1 (cq_best H1 HI.1)) (fun g M => mq_best M HI.1 HI.2.1) (HI)
  refine ⟨h2, ?_, J2, z1, z2⟩
  rw [bs_L_law_549]
  simp only [hh, hc0, bn_gd, bn_cI, if_true, if_false, e1, hh1, hC, e2, eq_self]
theorem la_562 {L i : Nat} {xs : Nat → Int32} {h : bn_H} (J : lp_J L xs h) (hi : i + 4 < L) (hL : L ≤ 320) : la_ok L xs i 562 h := by
  obtain ⟨hh, X, H1, H2, HI⟩ := J
  obtain ⟨f, c, O, -⟩ := H1.O
  have hc0 := co_C O
  obtain ⟨h1, h2, e1, e2, hh1, hC, J2, z1, z2⟩ := lp_two H1 H2 hh (cq_ok.same H1 (cq_missing H1 HI.1 (xs (i + 1)))) (fun g M => mq_ok.same M (mq_missing M.G HI.1.2.2.1 _)) (HI)
  refine ⟨h2, ?_, J2, z1, z2⟩
  have s1 : (nI (i + 1) < 0 ∨ L ≤ i + 1) = False := eq_false (fun z => z.elim (nI_pos (by omega)) (by omega))
  have c1 : (nI (i + 1)).toNatClampNeg = i + 1 := nI_clamp (by omega)
  rw [bs_L_law_562]
  simp only [n1, s1, c1, hh, hc0, bn_gd, bn_cI, if_true, if_false, e1, hh1, hC, e2, eq_self]
theorem la_585 {L i : Nat} {xs : Nat → Int32} {h : bn_H} (J : lp_J L xs h) (hi : i + 4 < L) (hL : L ≤ 320) : la_ok L xs i 585 h := by
  obtain ⟨hh, X, H1, H2, HI⟩ := J
  obtain ⟨f, c, O, -⟩ := H1.O
  have hc0 := co_C O
  obtain ⟨h1, h2, e1, e2, hh1, hC, J2, z1, z2⟩ := lp_two H1 H2 hh (cq_ok.same H1 (cq_forged h (xs (i + 1)) (xs (i + 2)) (xs (i + 3)) (if xs (i + 4) = 0 then 0 else 1))) (fun g M => mq_ok.same M (mq_forged g _ _ _ _)) (HI)
  refine ⟨h2, ?_, J2, z1, z2⟩
  have s1 : (nI (i + 1) < 0 ∨ L ≤ i + 1) = False := eq_false (fun z => z.elim (nI_pos (by omega)) (by omega))
  have c1 : (nI (i + 1)).toNatClampNeg = i + 1 := nI_clamp (by omega)
  have s2 : (nI (i + 2) < 0 ∨ L ≤ i + 2) = False := eq_false (fun z => z.elim (nI_pos (by omega)) (by omega))
  have c2 : (nI (i + 2)).toNatClampNeg = i + 2 := nI_clamp (by omega)
  have s3 : (nI (i + 3) < 0 ∨ L ≤ i + 3) = False := eq_false (fun z => z.elim (nI_pos (by omega)) (by omega))
  have c3 : (nI (i + 3)).toNatClampNeg = i + 3 := nI_clamp (by omega)
  have s4 : (nI (i + 4) < 0 ∨ L ≤ i + 4) = False := eq_false (fun z => z.elim (nI_pos (by omega)) (by omega))
  have c4 : (nI (i + 4)).toNatClampNeg = i + 4 := nI_clamp (by omega)
  rw [bs_L_law_585]
  simp only [n1, n2, n3, n4, s1, c1, s2, c2, s3, c3, s4, c4, hh, hc0, bn_gd, bn_cI, if_true, if_false, e1, hh1, hC, e2, eq_self]
theorem la_654 {L i : Nat} {xs : Nat → Int32} {h : bn_H} (J : lp_J L xs h) (hi : i + 4 < L) (hL : L ≤ 320) : la_ok L xs i 654 h := by
  obtain ⟨hh, X, H1, H2, HI⟩ := J
  obtain ⟨f, c, O, -⟩ := H1.O
  have hc0 := co_C O
  obtain ⟨h1, h2, e1, e2, hh1, hC, J2, z1, z2⟩ := lp_twoJ H1 H2 hh (cq_help H1 HI.1 (xs (i + 1)) (if xs (i + 2) = 0 then 0 else 1)) (fun g M => mq_help M HI.1 _ _) (HI)
  refine ⟨h2, ?_, J2, z1, z2⟩
  have s1 : (nI (i + 1) < 0 ∨ L ≤ i + 1) = False := eq_false (fun z => z.elim (nI_pos (by omega)) (by omega))
  have c1 : (nI (i + 1)).toNatClampNeg = i + 1 := nI_clamp (by omega)
  have s2 : (nI (i + 2) < 0 ∨ L ≤ i + 2) = False := eq_false (fun z => z.elim (nI_pos (by omega)) (by omega))
  have c2 : (nI (i + 2)).toNatClampNeg = i + 2 := nI_clamp (by omega)
  rw [bs_L_law_654]
  simp only [n1, n2, s1, c1, s2, c2, hh, hc0, bn_gd, bn_cJ, lg_self, if_true, if_false, e1, hh1, hC, e2, eq_self]
theorem la_704 {L i : Nat} {xs : Nat → Int32} {h : bn_H} (J : lp_J L xs h) (hi : i + 4 < L) (hL : L ≤ 320) : la_ok L xs i 704 h := by
  obtain ⟨hh, X, H1, H2, HI⟩ := J
  obtain ⟨f, c, O, -⟩ := H1.O
  have hc0 := co_C O
  obtain ⟨h1, h2, e1, e2, hh1, hC, J2, z1, z2⟩ := lp_two H1 H2 hh (cq_keep H1 HI.1 (xs (i + 1))) (fun g M => mq_keep M HI.1 _) (ki_keep HI _)
  refine ⟨h2, ?_, J2, z1, z2⟩
  have s1 : (nI (i + 1) < 0 ∨ L ≤ i + 1) = False := eq_false (fun z => z.elim (nI_pos (by omega)) (by omega))
  have c1 : (nI (i + 1)).toNatClampNeg = i + 1 := nI_clamp (by omega)
  rw [bs_L_law_704]
  simp only [n1, s1, c1, hh, hc0, bn_gd, bn_cI, if_true, if_false, e1, hh1, hC, e2, eq_self]
theorem la_727 {L i : Nat} {xs : Nat → Int32} {h : bn_H} (J : lp_J L xs h) (hi : i + 4 < L) (hL : L ≤ 320) : la_ok L xs i 727 h := by
  obtain ⟨hh, X, H1, H2, HI⟩ := J
  obtain ⟨f, c, O, -⟩ := H1.O
  have hc0 := co_C O
  obtain ⟨h1, h2, e1, e2, hh1, hC, J2, z1, z2⟩ := lp_two H1 H2 hh (cq_again H1 HI.1 (xs (i + 1))) (fun g M => mq_again M HI.1 _) (ki_again HI _)
  refine ⟨h2, ?_, J2, z1, z2⟩
  have s1 : (nI (i + 1) < 0 ∨ L ≤ i + 1) = False := eq_false (fun z => z.elim (nI_pos (by omega)) (by omega))
  have c1 : (nI (i + 1)).toNatClampNeg = i + 1 := nI_clamp (by omega)
  rw [bs_L_law_727]
  simp only [n1, s1, c1, hh, hc0, bn_gd, bn_cI, if_true, if_false, e1, hh1, hC, e2, eq_self]
theorem la_750 {L i : Nat} {xs : Nat → Int32} {h : bn_H} (J : lp_J L xs h) (hi : i + 4 < L) (hL : L ≤ 320) : la_ok L xs i 750 h := by
  obtain ⟨hh, X, H1, H2, HI⟩ := J
  obtain ⟨f, c, O, -⟩ := H1.O
  have hc0 := co_C O
  obtain ⟨h1, h2, e1, e2, hh1, hC, J2, z1, z2⟩ := lp_two H1 H2 hh (cq_ok.same H1 (cq_count H1 HI.1 (xs (i + 1)))) (fun g M => mq_ok.same M (mq_count M HI.1 _)) (HI)
  refine ⟨h2, ?_, J2, z1, z2⟩
  have s1 : (nI (i + 1) < 0 ∨ L ≤ i + 1) = False := eq_false (fun z => z.elim (nI_pos (by omega)) (by omega))
  have c1 : (nI (i + 1)).toNatClampNeg = i + 1 := nI_clamp (by omega)
  rw [bs_L_law_750]
  simp only [n1, s1, c1, hh, hc0, bn_gd, bn_cI, if_true, if_false, e1, hh1, hC, e2, eq_self]
